/-! ===== BOTH: derivations ===== -/
/-- in how many ways a stack gives the rest of the word -/
def SV (u : Nat → Nat) (W : Nat → Nat → Nat → Nat) (L : Nat) : List Nat → Nat → Nat
  | [], m => if m = L then 1 else 0
  | y :: st, m => rs (fun to => sy u W y m to * SV u W L st to) m (L + 1 - m)
/-- the right side of a production, from symbol i on -/
def rhs (G : Gr) (p : Nat) : Nat → Nat → List Nat
  | 0, _ => []
  | n + 1, i => G.2.2.2 p i :: rhs G p n (i + 1)
def rh (G : Gr) (p : Nat) : List Nat := rhs G p (G.2.2.1 p) 0
/-- what a production gives on top of a stack -/
def its (G : Gr) (u : Nat → Nat) (L : Nat) (st : List Nat) (fr p : Nat) : Nat := sat (SV u (NT G u) L (rh G p ++ st) fr)
/-- the production that the derivation goes on with -/
def CH (G : Gr) (u : Nat → Nat) (L x : Nat) (st : List Nat) (fr lf p lf' : Nat) : Prop := p < G.1 ∧ G.2.1 p = x ∧ lf' < its G u L st fr p ∧ lf = lf' + pS G (its G u L st fr) x p
theorem pS_mono {G : Gr} {f : Nat → Nat} {x m : Nat} : ∀ k, pS G f x m ≤ pS G f x (m + k)
  | 0 => Nat.le_refl _
  | k + 1 => by
    have := pS_mono (G := G) (f := f) (x := x) (m := m) k
    show _ ≤ pS G f x (m + k) + (if G.2.1 (m + k) = x then f (m + k) else 0)
    omega
theorem CH.uniq {G : Gr} {u : Nat → Nat} {L x : Nat} {st : List Nat} {fr lf p lf' p2 lf2 : Nat} (h : CH G u L x st fr lf p lf') (h2 : CH G u L x st fr lf p2 lf2) : p = p2 ∧ lf' = lf2 := by
  have lt : ∀ {p lf' p2 lf2}, CH G u L x st fr lf p lf' → CH G u L x st fr lf p2 lf2 → ¬ p < p2 := by
    rintro p lf' p2 lf2 ⟨_, a2, a3, a4⟩ ⟨_, _, b3, b4⟩ hlt
    have h1 : pS G (its G u L st fr) x (p + 1) = pS G (its G u L st fr) x p + its G u L st fr p := by
      show pS G (its G u L st fr) x p + (if G.2.1 p = x then _ else 0) = _
      rw [if_pos a2]
    have h2 := pS_mono (G := G) (f := its G u L st fr) (x := x) (m := p + 1) (p2 - (p + 1))
    rw [show p + 1 + (p2 - (p + 1)) = p2 by omega] at h2
    omega
  have e : p = p2 := by
    have a := lt h h2
    have b := lt h2 h
    omega
  subst e
  exact ⟨rfl, by have := h.2.2.2; have := h2.2.2.2; omega⟩
/-- one turn of a listing -/
def TR (G : Gr) (u : Nat → Nat) (L : Nat) (ps : Nat → Nat) (st : List Nat) (fr lf c : Nat) (st' : List Nat) (fr' lf' c' : Nat) : Prop := ∃ y st0, st = y :: st0 ∧ ((y < 10 ∧ st' = st0 ∧ fr' = fr + 1 ∧ lf' = lf ∧ c' = c) ∨ (10 ≤ y ∧ CH G u L (y - 10) st0 fr lf (ps c) lf' ∧ st' = rh G (ps c) ++ st0 ∧ fr' = fr ∧ c' = c + 1))
/-- where a listing is after t turns -/
def RN (G : Gr) (u : Nat → Nat) (L j : Nat) (ps : Nat → Nat) : Nat → List Nat → Nat → Nat → Nat → Prop
  | 0, st, fr, lf, c => st = [10 + G.2.1 0] ∧ fr = 0 ∧ lf = j ∧ c = 0
  | t + 1, st', fr', lf', c' => ∃ st fr lf c, RN G u L j ps t st fr lf c ∧ TR G u L ps st fr lf c st' fr' lf' c'
theorem RN.uniq {G : Gr} {u : Nat → Nat} {L j : Nat} {ps ps' : Nat → Nat} : ∀ t {st fr lf c st' fr' lf' c'}, RN G u L j ps t st fr lf c → RN G u L j ps' t st' fr' lf' c' → (st = st' ∧ fr = fr' ∧ lf = lf' ∧ c = c') ∧ ∀ i, i < c → ps i = ps' i
  | 0, st, fr, lf, c, st', fr', lf', c', h, h' => by
    obtain ⟨rfl, rfl, rfl, rfl⟩ := h
    obtain ⟨rfl, rfl, rfl, rfl⟩ := h'
    exact ⟨⟨rfl, rfl, rfl, rfl⟩, fun i hi => absurd hi (Nat.not_lt_zero i)⟩
  | t + 1, st, fr, lf, c, st', fr', lf', c', h, h' => by
    obtain ⟨s1, f1, l1, c1, r1, y, t0, e1, d1⟩ := h
    obtain ⟨s2, f2, l2, c2, r2, y2, t2, e2, d2⟩ := h'
    obtain ⟨⟨rfl, rfl, rfl, rfl⟩, hp⟩ := RN.uniq t r1 r2
    rw [e1] at e2
    injection e2 with ey et
    subst ey; subst et
    rcases d1 with ⟨k1, rfl, rfl, rfl, rfl⟩ | ⟨k1, k2, rfl, rfl, rfl⟩
    · rcases d2 with ⟨m1, rfl, rfl, rfl, rfl⟩ | ⟨m1, _⟩
      · exact ⟨⟨rfl, rfl, rfl, rfl⟩, hp⟩
      · omega
    · rcases d2 with ⟨m1, _⟩ | ⟨m1, m2, rfl, rfl, rfl⟩
      · omega
      · obtain ⟨ep, el⟩ := k2.uniq m2
        refine ⟨⟨by rw [ep], rfl, el, rfl⟩, fun i hi => ?_⟩
        by_cases e : i = c1
        · rw [e]; exact ep
        · exact hp i (by omega)
theorem RN.pre {G : Gr} {u : Nat → Nat} {L j : Nat} {ps : Nat → Nat} : ∀ k t {st fr lf c}, RN G u L j ps (t + k) st fr lf c → ∃ st' fr' lf' c', RN G u L j ps t st' fr' lf' c' ∧ c' ≤ c ∧ (0 < k → st' ≠ [])
  | 0, t, st, fr, lf, c, h => ⟨st, fr, lf, c, h, Nat.le_refl _, fun h => absurd h (Nat.lt_irrefl 0)⟩
  | k + 1, t, st, fr, lf, c, h => by
    obtain ⟨s1, f1, l1, c1, r1, y, t0, e1, d1⟩ := h
    have hc : c1 ≤ c := by
      rcases d1 with ⟨_, _, _, _, rfl⟩ | ⟨_, _, _, _, rfl⟩ <;> omega
    obtain ⟨s2, f2, l2, c2, r2, h2, h3⟩ := RN.pre k t r1
    refine ⟨s2, f2, l2, c2, r2, by omega, fun _ => ?_⟩
    rcases Nat.eq_zero_or_pos k with hk | hk
    · subst hk
      obtain ⟨⟨rfl, _⟩, _⟩ := RN.uniq t r1 r2
      rw [e1]
      exact List.cons_ne_nil _ _
    · exact h3 hk
/-- what is listed of derivation j -/
def LE2 (G : Gr) (u : Nat → Nat) (L j c : Nat) (ps : Nat → Nat) : Prop := ∃ t st fr lf, RN G u L j ps t st fr lf c ∧ (st = [] ∨ c = 200) ∧ c ≤ 200
/-- what step i of derivation j is -/
def SP (G : Gr) (u : Nat → Nat) (L j i : Nat) (r : Int32) : Prop := (∃ t st fr lf ps, RN G u L j ps t st fr lf (i + 1) ∧ r = nI (ps i)) ∨ (r = -9 ∧ ∃ t fr lf c ps, RN G u L j ps t [] fr lf c ∧ c ≤ i)
theorem SP.of {G : Gr} {u : Nat → Nat} {L j c i : Nat} {ps : Nat → Nat} (h : LE2 G u L j c ps) (hi : i < 200) {r : Int32} (hr : SP G u L j i r) : r = if i < c then nI (ps i) else -9 := by
  obtain ⟨t, st, fr, lf, h1, h2, h3⟩ := h
  rcases hr with ⟨t', st', fr', lf', ps', k1, rfl⟩ | ⟨rfl, t', fr', lf', c', ps', k1, k2⟩
  · by_cases hc : i < c
    · rw [if_pos hc]
      rcases Nat.le_total t' t with ht | ht
      · obtain ⟨k, rfl⟩ : ∃ k, t = t' + k := ⟨t - t', by omega⟩
        obtain ⟨s2, f2, l2, c2, r2, _, _⟩ := RN.pre k t' h1
        obtain ⟨⟨_, _, _, e⟩, hp⟩ := RN.uniq t' k1 r2
        rw [hp i (by omega)]
      · obtain ⟨k, rfl⟩ : ∃ k, t' = t + k := ⟨t' - t, by omega⟩
        obtain ⟨s2, f2, l2, c2, r2, h5, _⟩ := RN.pre k t k1
        obtain ⟨⟨_, _, _, e⟩, hp⟩ := RN.uniq t h1 r2
        rw [hp i hc]
    · exfalso
      have h200 : ¬ c = 200 := by omega
      have hst : st = [] := by
        rcases h2 with h | h
        · exact h
        · exact absurd h h200
      rcases Nat.le_total t' t with ht | ht
      · obtain ⟨k, rfl⟩ : ∃ k, t = t' + k := ⟨t - t', by omega⟩
        obtain ⟨s2, f2, l2, c2, r2, h5, _⟩ := RN.pre k t' h1
        obtain ⟨⟨_, _, _, e⟩, hp⟩ := RN.uniq t' k1 r2
        omega
      · obtain ⟨k, rfl⟩ : ∃ k, t' = t + k := ⟨t' - t, by omega⟩
        obtain ⟨s2, f2, l2, c2, r2, h5, h6⟩ := RN.pre k t k1
        obtain ⟨⟨e0, _, _, e⟩, hp⟩ := RN.uniq t h1 r2
        rcases Nat.eq_zero_or_pos k with hk | hk
        · subst hk
          obtain ⟨⟨_, _, _, e'⟩, _⟩ := RN.uniq t h1 k1
          omega
        · exact h6 hk (by rw [← e0]; exact hst)
  · by_cases hc : i < c
    · exfalso
      rcases Nat.le_total t' t with ht | ht
      · obtain ⟨k, rfl⟩ : ∃ k, t = t' + k := ⟨t - t', by omega⟩
        obtain ⟨s2, f2, l2, c2, r2, h5, h6⟩ := RN.pre k t' h1
        obtain ⟨⟨e0, _, _, e⟩, hp⟩ := RN.uniq t' k1 r2
        rcases Nat.eq_zero_or_pos k with hk | hk
        · subst hk
          obtain ⟨⟨_, _, _, e'⟩, _⟩ := RN.uniq t' k1 h1
          omega
        · exact h6 hk e0.symm
      · obtain ⟨k, rfl⟩ : ∃ k, t' = t + k := ⟨t' - t, by omega⟩
        obtain ⟨s2, f2, l2, c2, r2, h5, _⟩ := RN.pre k t k1
        obtain ⟨⟨_, _, _, e⟩, hp⟩ := RN.uniq t h1 r2
        omega
    · rw [if_neg hc]
/-- the letters of a text -/
def uT (tx : Nat → Nat) : Nat → Nat := fun i => tx i - 97
/-- derivation j is listed -/
def LSd (G : Gr) (u : Nat → Nat) (L j : Nat) (s : PH) : Prop := (NT G u (G.2.1 0) 0 L ≤ j ∧ s.1 28 j = nI 0) ∨ (j < NT G u (G.2.1 0) 0 L ∧ ∃ c ps, LE2 G u L j c ps ∧ s.1 28 j = nI c ∧ ∀ i, i < c → s.1 27 (200 * j + i) = nI (ps i))
/-- what the class keeps of an input -/
def DI (G : Gr) (L : Nat) (tx : Nat → Nat) (s : PH) : Prop := (s.1 24 5 = nI 0 ∧ s.1 24 6 = nI 0) ∨ (s.1 24 5 = nI 1 ∧ ACY G ∧ INP L tx ∧ s.1 24 7 = nI L ∧ s.1 24 8 = nI (NT G (uT tx) (G.2.1 0) 0 L) ∧ CNT G L (uT tx) s ∧ (s.1 24 6 = nI 0 ∨ (s.1 24 6 = nI 1 ∧ ∀ j, j < 2 → LSd G (uT tx) L j s)))
theorem DI.fr {G : Gr} {L : Nat} {tx : Nat → Nat} {P : Nat → Prop} {s t : PH} (h : DI G L tx s) (hf : Fr P s t) (h24 : ¬ P 24) (h27 : ¬ P 27) (h28 : ¬ P 28) (h139 : ¬ P 139) (h141 : ¬ P 141) : DI G L tx t := by
  unfold DI LSd CNT
  rw [(hf 24 h24).1, (hf 27 h27).1, (hf 28 h28).1, (hf 139 h139).1, (hf 141 h141).1]
  exact h
/-- what derivations() answers -/
def DR (G : Gr) (L : Nat) (tx : Nat → Nat) (r : Int32) : Prop := (RR G true ∧ r = -2) ∨ (¬ RR G true ∧ ∃ v, IFS L tx v ∧ v ≠ -9 ∧ r = -100 - v) ∨ (¬ RR G true ∧ INP L tx ∧ r = nI (NT G (uT tx) (G.2.1 0) 0 L))
theorem inp9 {L : Nat} {tx : Nat → Nat} {v : Int32} (h : IFS L tx v) (hI : INP L tx) : v = -9 := h.uniq (Or.inl ⟨rfl, hI⟩)
theorem DR.uniq {G : Gr} {L : Nat} {tx : Nat → Nat} {r r' : Int32} (h : DR G L tx r) (h' : DR G L tx r') : r = r' := by
  rcases h with ⟨a, rfl⟩ | ⟨a, v, b, c, rfl⟩ | ⟨a, b, rfl⟩
  · rcases h' with ⟨_, rfl⟩ | ⟨a', _⟩ | ⟨a', _⟩
    · rfl
    · exact absurd a a'
    · exact absurd a a'
  · rcases h' with ⟨a', _⟩ | ⟨_, v', b', c', rfl⟩ | ⟨_, b', rfl⟩
    · exact absurd a' a
    · rw [b.uniq b']
    · exact absurd (inp9 b b') c
  · rcases h' with ⟨a', _⟩ | ⟨_, v', b', c', rfl⟩ | ⟨_, b', rfl⟩
    · exact absurd a' a
    · exact absurd (inp9 b' b) c'
    · rfl
theorem deriv_c {G : Gr} {L : Nat} {tx : Nat → Nat} {s : PH} (hX : XG G s) (hK : GK G) (hT : TX L tx s) (hE : EN s) (hD : DI G L tx s) {n : Nat} (hn : 200 ≤ n) : ∃ r s1, fX11_derivations n s = some (r, s1) ∧ Fr isTt s s1 ∧ DI G L tx s1 ∧ DR G L tx r ∧ (¬ RR G true → INP L tx → s1.1 24 5 = nI 1) := by
  have w := hK.1
  obtain ⟨_, _, ⟨h8, h9, h77, hLt, h78, h79, hO⟩, _⟩ := id hX
  have hr := reach_c (k := 9) (c := true) h77 h79
  have e1 : fX9_cyclesReachably s = some (if (s.1 7 9 &&& s.1 7 7) = 0 then nI 0 else nI 1, s) := by
    unfold fX9_cyclesReachably
    rw [ite_some]
  obtain ⟨v, ev, hv⟩ := inputFault_c hT hn
  unfold fX11_derivations
  rw [e1, bd_ok]
  by_cases h0 : (if (s.1 7 9 &&& s.1 7 7) = 0 then nI 0 else nI 1) = 0
  · have hacy := hr.eq h0
    rw [if_pos h0, ev, bd_ok, lt_def]
    by_cases h9' : v = -9
    · have hI := hv.none hT.1 h9'
      rw [if_pos h9', lt_def]
      rcases hD with ⟨d1, d2⟩ | ⟨d1, d2⟩
      · obtain ⟨r, t, e, hf, er, k1, k2, k3, k4, k5⟩ := total_c hX w hT hI (RR_acy hacy) hE d1 (show 30 ≤ n by omega)
        rw [e, bd_ok]
        refine ⟨_, _, rfl, hf, Or.inr ⟨k1, RR_acy hacy, hI, k3, k4, k5, Or.inl (by rw [k2]; exact d2)⟩, Or.inr (Or.inr ⟨hacy, hI, er⟩), fun _ _ => k1⟩
      · unfold fX2_total
        rw [d1, if_neg n1_0, bd_ok]
        exact ⟨_, _, rfl, Fr.rf, Or.inr ⟨d1, d2⟩, Or.inr (Or.inr ⟨hacy, hI, d2.2.2.2.1⟩), fun _ _ => d1⟩
    · rw [if_neg h9']
      exact ⟨_, _, rfl, Fr.rf, hD, Or.inr (Or.inl ⟨hacy, v, hv, h9', rfl⟩), fun _ hI => absurd (inp9 hv hI) h9'⟩
  · have hcy := hr.ne h0
    rw [if_neg h0]
    exact ⟨_, _, rfl, Fr.rf, hD, Or.inl ⟨hcy, rfl⟩, fun h => absurd hcy h⟩
def isRd (q : Nat) : Prop := q = 148 ∨ q = 166 ∨ (168 ≤ q ∧ q ≤ 171)
theorem deriv_m {G : Gr} {L : Nat} {tx : Nat → Nat} {s : PH} (hK : GK G) (hM : MLd G s) (hT : TX L tx s) {n : Nat} (hn : 500 ≤ n) : wp (fX12_derivations n s) (fun r t => Fr isRd s t ∧ (∀ k, k ≠ 24 → t.1 148 k = s.1 148 k) ∧ DR G L tx r ∧ (¬ RR G true → INP L tx → t.1 148 24 = nI L ∧ UT (uT tx) L t ∧ ∀ x a b, x < 6 → a ≤ b → b ≤ L → t.2.1 168 (81 * x + 9 * a + b) = lN (NT G (uT tx) x a b))) := by
  have w := hK.1
  obtain ⟨r0, e0, hr⟩ := someReached_m (q := 157) (c := true) (n := n) hM.2.2.2.1 hM.2.2.2.2.2.1 (by omega)
  unfold fX12_derivations
  rw [e0, bd_ok]
  by_cases h0 : r0 = 0
  · have hacy := hr.eq h0
    rw [if_pos h0]
    refine wp_call (laysInput_m hT (show 200 ≤ n by omega)) (fun v t ⟨hf, h148, hv, hu⟩ => ?_)
    have hfd : Fr isRd s t := hf.wk (fun q hq => by unfold isI2 at hq; unfold isRd; omega)
    rw [lt_def]
    by_cases h9 : v = -9
    · have hI := hv.none hT.1 h9
      obtain ⟨h24, hut⟩ := hu h9
      rw [if_pos h9]
      have hMt := hM.fr hf (fun q hq => by unfold isI2; omega)
      have hUT : UT (uT tx) L t := hut
      refine wp_call (laysWays_m hMt w (RR_acy hacy) hUT (fun i hi => by have := hI.2 i hi; unfold uT; omega) hI.1 h24 hn) (fun _ t2 ⟨hf2, hW⟩ => ?_)
      have hMt2 := hMt.fr hf2 (fun q hq => by unfold isD4; omega)
      have r24 : t2.1 148 24 = nI L := by rw [(hf2 148 (by unfold isD4; omega)).1]; exact h24
      have hst : G.2.1 0 < 6 := lft6 w w.1.1
      rw [start_e hMt2.1 w, bd_ok, r24]
      have hL := hI.1
      unfold fX12_waysOf
      simp (disch := omega) only [nI_mulN, nI_add, ra_ok, bd_ok]
      have hw0 := hW (G.2.1 0) 0 L hst (Nat.zero_le _) (Nat.le_refl _)
      rw [hw0, lN_i]
      refine wp_some ⟨hfd.tr (hf2.wk (fun q hq => by unfold isD4 at hq; unfold isRd; omega)), fun k hk => ?_, Or.inr (Or.inr ⟨hacy, hI, rfl⟩), fun _ _ => ⟨r24, ?_, hW⟩⟩
      · rw [(hf2 148 (by unfold isD4; omega)).1]; exact h148 k hk
      · intro i hi
        rw [(hf2 166 (by unfold isD4; omega)).1]; exact hUT i hi
    · rw [if_neg h9]
      exact wp_some ⟨hfd, h148, Or.inr (Or.inl ⟨hacy, v, hv, h9, rfl⟩), fun _ hI => absurd (inp9 hv hI) h9⟩
  · have hcy := hr.ne h0
    rw [if_neg h0]
    exact wp_some ⟨Fr.rf, fun _ _ => rfl, Or.inl ⟨hcy, rfl⟩, fun h => absurd hcy h⟩
