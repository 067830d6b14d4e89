/-! ===== the class: what it lists of an input ===== -/
theorem STK.app {A B : Nat → Nat → Prop} {u : Nat → Nat} {W : Nat → Nat → Nat → Nat} {L g : Nat} {st : List Nat} : ∀ (a : List Nat), STK A B u W L g (a ++ st) → STK A B u W L g st
  | [], h => h
  | _ :: a, h => STK.app a h.2.2
theorem ile {α : Type} {a b : Nat} (ha : a < 2147483648) (hb : b < 2147483648) {x y : α} : (if nI a ≤ nI b then x else y) = if a ≤ b then x else y := by simp only [le_ok ha hb]
theorem ilt {α : Type} {a b : Nat} (ha : a < 2147483648) (hb : b < 2147483648) {x y : α} : (if nI a < nI b then x else y) = if a < b then x else y := by simp only [lt_ok ha hb]
theorem ieq {α : Type} {a b : Nat} (ha : a < 2147483648) (hb : b < 2147483648) {x y : α} : (if nI a = nI b then x else y) = if a = b then x else y := by simp only [eq_ok ha hb]
theorem ilez {α : Type} {a : Nat} (ha : a < 2147483648) {x y : α} : (if nI a ≤ 0 then x else y) = if a ≤ 0 then x else y := by simp only [lez_ok ha]
theorem ille {α : Type} {a b : Nat} (ha : a < 9223372036854775808) (hb : b < 9223372036854775808) {x y : α} : (if lN a ≤ lN b then x else y) = if a ≤ b then x else y := by simp only [lle_ok ha hb]
def isPu (q : Nat) : Prop := q = 24 ∨ q = 25 ∨ q = 26
def SKC (G : Gr) (u : Nat → Nat) (L g : Nat) (st : List Nat) (s : PH) : Prop := s.1 24 9 = nI st.length ∧ STK (fun i y => s.1 25 (i + 1) = nI y) (fun k v => s.1 26 k = nI v) u (NT G u) L g st
/-- what stays as it is while the class lists -/
def KL (G : Gr) (u : Nat → Nat) (L : Nat) (s : PH) : Prop := s.1 24 7 = nI L ∧ CNT G L u s ∧ EN s ∧ L ≤ 8 ∧ ∀ i, i < L → u i < 5
theorem KL.fr {G : Gr} {u : Nat → Nat} {L : Nat} {P : Nat → Prop} {s t : PH} (h : KL G u L s) (hf : Fr P s t) (h1 : ¬ P 139) (h2 : ¬ P 140) (h3 : ¬ P 141) (h7 : t.1 24 7 = s.1 24 7) : KL G u L t := by
  unfold KL CNT EN
  rw [h7, (hf 139 h1).1, (hf 140 h2).1, (hf 141 h3).1]
  exact h
theorem rs_last (f : Nat → Nat) {a k : Nat} (h : a ≤ k) : rs f a (k + 1 - a) = rs f a (k - a) + f k := by
  rw [show k + 1 - a = (k - a) + 1 by omega]
  show rs f a (k - a) + f (a + (k - a)) = _
  rw [show a + (k - a) = k by omega]
theorem waysNon_c {G : Gr} {u : Nat → Nat} {L : Nat} {s : PH} (h : KL G u L s) {V : Nat → Nat} {x m b n : Nat} (hx : x < 6) (hm : m ≤ L) (hb : b + L < 7218) (hV : ∀ to, m ≤ to → to ≤ L → s.1 26 (b + to) = nI (sat (V to))) (hn : 20 ≤ n) : fX2_waysOfNonterminal n (nI x) (nI m) (nI b) s = some (nI (sat (rs (fun to => NT G u x m to * V to) m (L + 1 - m))), s) := by
  obtain ⟨h7, hC, hE, hL, _⟩ := h
  have hB : CTB 0 (fun c d => 9 * c + d) 0 L s := fun c d k1 k2 k3 => by
    refine ⟨?_, ?_⟩
    · rw [show cId 0 2 = 140 from rfl]
      exact hE c d k2 (by omega)
    · show 6 * (9 * c + d) + 6 ≤ 486
      omega
  have hT : CTV 0 (fun c d => 9 * c + d) 0 L (NT G u) s := fun y c d k0 k1 k2 k3 => hC.1 y c d k0 k2 k3
  have key : wp (fX2_waysOfNonterminal n (nI x) (nI m) (nI b) s) (fun r t => t = s ∧ r = nI (sat (rs (fun to => NT G u x m to * V to) m (L + 1 - m)))) := by
    unfold fX2_waysOfNonterminal
    simp only [lt_def]
    rw [lN0]
    refine wp_for3 (L + 1) (by omega) (fun to v t => m ≤ to ∧ t = s ∧ v = lN (sat (rs (fun to => NT G u x m to * V to) m (to - m)))) ?_ ?_ n m _ s (by omega) ⟨Nat.le_refl _, rfl, by rw [Nat.sub_self]; rfl⟩ (by omega)
    · rintro rec to v t hto ⟨hmt, rfl, rfl⟩ ih
      have hs1 := sat_le (rs (fun to => NT G u x m to * V to) m (to - m))
      have hs2 := sat_le (V to)
      have hnt := NT_le G u x m to
      have hmul := mul_b hnt hs2
      have rV := hV to hmt (by omega)
      have es : sat (rs (fun to => NT G u x m to * V to) m (to + 1 - m)) = sat (sat (rs (fun to => NT G u x m to * V to) m (to - m)) + NT G u x m to * sat (V to)) := by
        have e := sat_fma (rs (fun to => NT G u x m to * V to) m (to - m)) (NT G u x m to) (V to)
        rw [sat_id hnt] at e
        rw [e, rs_last _ hmt]
      simp (disch := omega) only [h7, lt_ok, if_neg, nI_add, ra_ok, rV, jn_def, eq0_ok]
      by_cases h0 : sat (V to) = 0
      · rw [if_pos h0]
        refine ih _ _ ⟨by omega, rfl, ?_⟩
        rw [es, h0, Nat.mul_zero, Nat.add_zero, sat_sat]
      · rw [if_neg h0, count_t hB hT hL hx (Nat.zero_le _) hmt (by omega), bd_ok]
        simp (disch := omega) only [nI_add, ra_ok, rV, nIl_ok, lN_mul, lN_add, minL]
        exact ih _ _ ⟨by omega, rfl, by rw [es]⟩
    · rintro rec v t ⟨hmt, rfl, rfl⟩
      have hs1 := sat_le (rs (fun to => NT G u x m to * V to) m (L + 1 - m))
      simp (disch := omega) only [h7, lt_ok, if_pos, lN_i]
      exact wp_some ⟨rfl, rfl⟩
  obtain ⟨r, t, e, rfl, rfl⟩ := key
  exact e
theorem waysLet_c {G : Gr} {u : Nat → Nat} {L : Nat} {s : PH} (h : KL G u L s) {V : Nat → Nat} {y m b : Nat} (hy : y < 10) (hm : m ≤ L) (hb : b + L < 7218) (hV : ∀ to, m ≤ to → to ≤ L → s.1 26 (b + to) = nI (sat (V to))) : fX2_waysOfLetter (nI y) (nI m) (nI b) s = some (nI (sat (if m < L ∧ u m = y then V (m + 1) else 0)), s) := by
  obtain ⟨h7, hC, hE, hL, hu5⟩ := h
  unfold fX2_waysOfLetter
  rw [h7, ile (by omega) (by omega)]
  by_cases hle : L ≤ m
  · rw [if_pos hle, if_neg (by omega)]
    rfl
  · rw [if_neg hle]
    have hu := hu5 m (by omega)
    have r := hC.2 m (by omega)
    have rV := hV (m + 1) (by omega) (by omega)
    unfold fX1_letter
    rw [show cId 0 1 = 139 from rfl]
    simp (disch := omega) only [ra_ok, bd_ok, r, eq_ok, nI_add]
    by_cases hc : u m = y
    · rw [if_pos hc, if_pos ⟨by omega, hc⟩]
      simp (disch := omega) only [Nat.add_assoc, ra_ok, rV]
    · rw [if_neg hc, if_neg (fun h => hc h.2)]
      rfl
theorem push_c {G : Gr} {u : Nat → Nat} {L g : Nat} {st : List Nat} {s : PH} (h : KL G u L s) (hS : SKC G u L g st s) {y n : Nat} (hl : st.length < 801) (hy : y < 16) (hg : g ≤ L) (hn : 20 ≤ n) : wp (fX2_push n (nI y) (nI g) s) (fun _ t => Fr isPu s t ∧ (∀ k, k ≠ 9 → t.1 24 k = s.1 24 k) ∧ SKC G u L g (y :: st) t) := by
  obtain ⟨h9, hSt⟩ := hS
  have hL := h.2.2.2.1
  obtain ⟨l, hll⟩ : ∃ l, l = st.length := ⟨_, rfl⟩
  rw [← hll] at h9 hl
  have htop := STK.top st hSt
  unfold fX2_push
  simp (disch := omega) only [h9, lt_ok, if_pos, lt_def, nI_mulN, nI_add]
  have e9 : (si s 24 9 (nI (l + 1))).1 24 9 = nI (l + 1) := by simp [si_1]
  rw [e9]
  simp (disch := omega) only [wa_ok, cl_ok]
  obtain ⟨s3, hs3⟩ : ∃ s3, s3 = si (si s 24 9 (nI (l + 1))) 25 (l + 1) (nI y) := ⟨_, rfl⟩
  rw [← hs3]
  have f3 : Fr isPu s s3 := by rw [hs3]; exact (Fr.si (Or.inl rfl)).tr (Fr.si (Or.inr (Or.inl rfl)))
  have a24 : ∀ k, k ≠ 9 → s3.1 24 k = s.1 24 k := by intro k hk; rw [hs3]; simp [si_1, hk]
  have a9 : s3.1 24 9 = nI (l + 1) := by rw [hs3]; simp [si_1]
  have a25 : s3.1 25 (l + 1) = nI y := by rw [hs3]; simp [si_1]
  have a25' : ∀ k, k < l + 1 → s3.1 25 k = s.1 25 k := by
    intro k hk
    rw [hs3]
    simp [si_1, show k ≠ l + 1 by omega]
  have a26 : s3.1 26 = s.1 26 := by rw [hs3, si_r _ _ _ _ (by decide), si_r _ _ _ _ (by decide)]
  refine wp_for2 (L + 1) (by omega) (fun m t => g ≤ m ∧ Fr isPu s t ∧ t.1 24 = s3.1 24 ∧ t.1 25 = s3.1 25 ∧ (∀ k, k < 9 * (l + 1) → t.1 26 k = s.1 26 k) ∧ ∀ m', g ≤ m' → m' < m → t.1 26 (9 * (l + 1) + m') = nI (sat (SV u (NT G u) L (y :: st) m'))) ?_ ?_ n g s3 (by omega) ⟨Nat.le_refl _, f3, rfl, rfl, fun k _ => by rw [a26], fun m' h1 h2 => by omega⟩ (by omega)
  · rintro rec m t hm ⟨hgm, hf, t24, t25, hlow, hnew⟩ ih
    have t7 : t.1 24 7 = nI L := by rw [t24, a24 7 (by decide)]; exact h.1
    have t9 : t.1 24 9 = nI (l + 1) := by rw [t24]; exact a9
    have hK : KL G u L t := h.fr hf (by unfold isPu; omega) (by unfold isPu; omega) (by unfold isPu; omega) (by rw [t7]; exact h.1.symm)
    have hV : ∀ to, m ≤ to → to ≤ L → t.1 26 (l * 9 + to) = nI (sat (SV u (NT G u) L st to)) := by
      intro to k1 k2
      rw [hlow _ (by omega), Nat.mul_comm l 9, hll]
      exact htop to (by omega) k2
    have fin : ∀ v, v = SV u (NT G u) L (y :: st) m → wp (rec (nI (m + 1)) (si t 26 ((l + 1) * 9 + m) (nI (sat v)))) (fun _ t => Fr isPu s t ∧ (∀ k, k ≠ 9 → t.1 24 k = s.1 24 k) ∧ SKC G u L g (y :: st) t) := by
      intro v ev
      refine ih _ ⟨by omega, hf.tr (Fr.si (Or.inr (Or.inr rfl))), ?_, ?_, fun k hk => ?_, fun m' k1 k2 => ?_⟩
      · rw [si_r _ _ _ _ (by decide)]; exact t24
      · rw [si_r _ _ _ _ (by decide)]; exact t25
      · rw [si_q]
        dsimp only
        rw [if_neg (by omega)]
        exact hlow k hk
      · rw [si_q]
        dsimp only
        by_cases e : m' = m
        · rw [if_pos (by omega), ev, e]
        · rw [if_neg (by omega)]; exact hnew m' k1 (by omega)
    simp (disch := omega) only [t7, t9, lt_ok, if_neg, isLetter_c, bd_ok, jn_def, bI_0, nI_mulN, nI_add, decide_eq_false_iff_not]
    by_cases h10 : y < 10
    · rw [if_neg (by omega), waysLet_c hK h10 (by omega) (by omega) hV, bd_ok]
      simp (disch := omega) only [wa_ok, cl_ok]
      refine fin _ ?_
      rw [SV_let h10]
    · rw [if_pos h10, nI_subN (by omega), waysNon_c hK (by omega) (by omega) (by omega) hV hn, bd_ok]
      simp (disch := omega) only [wa_ok, cl_ok]
      refine fin _ ?_
      rw [SV_cons]
      refine rs_congr _ (fun j _ => ?_)
      unfold sy
      rw [if_neg h10]
  · rintro rec t ⟨_, hf, t24, t25, hlow, hnew⟩
    have t7 : t.1 24 7 = nI L := by rw [t24, a24 7 (by decide)]; exact h.1
    simp (disch := omega) only [t7, lt_ok, if_pos]
    refine wp_some ⟨hf, fun k hk => by rw [t24]; exact a24 k hk, ?_, ?_, fun m k1 k2 => ?_, ?_⟩
    · rw [t24, a9, hll]; rfl
    · rw [t25, ← hll]; exact a25
    · rw [← hll]; exact hnew m k1 (by omega)
    · refine STK.mono hL (Nat.le_refl g) st (fun i z hi hz => ?_) (fun k v hk hz => ?_) hSt
      · rw [t25, a25' (i + 1) (by omega)]; exact hz
      · rw [hlow k (by omega)]; exact hz
theorem startStack_c {G : Gr} {u : Nat → Nat} {L : Nat} {s : PH} (h : KL G u L s) {y n : Nat} (hy : y < 16) (hn : 20 ≤ n) : wp (fX2_startStack n (nI y) s) (fun _ t => Fr isPu s t ∧ (∀ k, k ≠ 9 → t.1 24 k = s.1 24 k) ∧ SKC G u L 0 [y] t) := by
  have hL := h.2.2.2.1
  unfold fX2_startStack
  simp only [lt_def]
  refine wp_for2 (L + 1) (by omega) (fun m t => Fr isPu s t ∧ t.1 24 = s.1 24 ∧ ∀ k, k < m → t.1 26 k = nI (sat (SV u (NT G u) L [] k))) ?_ ?_ n 0 s (by omega) ⟨Fr.rf, rfl, fun k hk => absurd hk (Nat.not_lt_zero k)⟩ (by omega)
  · rintro rec m t hm ⟨hf, t24, hnew⟩ ih
    have t7 : t.1 24 7 = nI L := by rw [t24]; exact h.1
    simp (disch := omega) only [t7, lt_ok, if_neg, jn_def, eq_ok, wa_ok, cl_ok, nI_add]
    have fin : ∀ v, v = sat (SV u (NT G u) L [] m) → wp (rec (nI (m + 1)) (si t 26 m (nI v))) (fun _ t => Fr isPu s t ∧ (∀ k, k ≠ 9 → t.1 24 k = s.1 24 k) ∧ SKC G u L 0 [y] t) := by
      intro v ev
      refine ih _ ⟨hf.tr (Fr.si (Or.inr (Or.inr rfl))), by rw [si_r _ _ _ _ (by decide)]; exact t24, fun k hk => ?_⟩
      rw [si_q]
      dsimp only
      by_cases e : k = m
      · rw [if_pos e, ev, e]
      · rw [if_neg e]; exact hnew k (by omega)
    by_cases e : m = L
    · rw [if_pos e]
      refine fin 1 ?_
      show 1 = sat (if m = L then 1 else 0)
      rw [if_pos e]; rfl
    · rw [if_neg e]
      refine fin 0 ?_
      show 0 = sat (if m = L then 1 else 0)
      rw [if_neg e]; rfl
  · rintro rec t ⟨hf, t24, hnew⟩
    have t7 : t.1 24 7 = nI L := by rw [t24]; exact h.1
    simp (disch := omega) only [t7, lt_ok, if_pos]
    have f5 : Fr isPu s (si t 24 9 (nI 0)) := hf.tr (Fr.si (Or.inl rfl))
    have a24 : ∀ k, k ≠ 9 → (si t 24 9 (nI 0)).1 24 k = s.1 24 k := by intro k hk; simp [si_1, hk, t24]
    have hK := h.fr f5 (by unfold isPu; omega) (by unfold isPu; omega) (by unfold isPu; omega) (a24 7 (by decide))
    refine wp_call (push_c (st := []) (g := 0) hK ⟨by simp [si_1], fun m k1 k2 => ?_⟩ (by decide) hy (Nat.zero_le _) hn) (fun _ t2 ⟨hf2, k24, hS2⟩ => ?_)
    · show (si t 24 9 (nI 0)).1 26 m = _
      rw [si_r _ _ _ _ (by decide)]; exact hnew m (by omega)
    · exact wp_some ⟨f5.tr hf2, fun k hk => by rw [k24 k hk]; exact a24 k hk, hS2⟩
theorem replace_c {G : Gr} {g : Nat} {u : Nat → Nat} {L : Nat} {s : PH} (hG : CG G g s) (hg : g < 6) (w : WG G) (hA : ACY G) (h : KL G u L s) {x fr lf : Nat} {st : List Nat} (hx : x < 6) (hr : rI G 6 x = true) (hS : SKC G u L fr st s) (hl : st.length + 5 ≤ 801) (h10 : s.1 24 10 = nI lf) (hlf : lf < sat (SV u (NT G u) L ((10 + x) :: st) fr)) (hlf1 : lf ≤ 1) (hfr : fr ≤ L) {n : Nat} (hn : 20 ≤ n) : wp (fX2_replace n g (nI x) (nI fr) s) (fun r t => Fr isPu s t ∧ (∀ k, k ≠ 9 → k ≠ 10 → t.1 24 k = s.1 24 k) ∧ ∃ p lf', CH G u L x st fr lf p lf' ∧ r = nI p ∧ t.1 24 10 = nI lf' ∧ SKC G u L fr (rh G p ++ st) t) := by
  have hL := h.2.2.2.1
  have h16 := w.1.2
  have hex := CH.ex w hA hL hfr hx hr hlf
  obtain ⟨B, E, eB, eE, hBE, hE1, hrng⟩ := hG.2.2 x hx
  have begE : ∀ t2, Fr isPu s t2 → fX4_begin g (nI x) t2 = some (nI B, t2) ∧ fX4_end g (nI x) t2 = some (nI E, t2) := by
    intro t2 hf2
    constructor
    · unfold fX4_begin
      simp (disch := omega) only [ra_ok]
      rw [(hf2 (gId g 4) (by unfold isPu gId; omega)).1, eB]
    · unfold fX4_end
      simp (disch := omega) only [ra_ok]
      rw [(hf2 (gId g 5) (by unfold isPu gId; omega)).1, eE]
  have h9 := hS.1
  unfold fX2_replace
  simp only [lt_def, (begE s Fr.rf).1, bd_ok, h9]
  refine wp_for2 E (by omega) (fun p t => B ≤ p ∧ Fr isPu s t ∧ (∀ k, k ≠ 9 → k ≠ 10 → t.1 24 k = s.1 24 k) ∧ ∃ lf', t.1 24 10 = nI lf' ∧ lf = lf' + pS G (its G u L st fr) x p ∧ SKC G u L fr st t) ?_ ?_ n B s hBE ⟨Nat.le_refl _, Fr.rf, fun _ _ _ => rfl, lf, h10, ?_, hS⟩ (by omega)
  · rintro rec p t hp ⟨hBp, hf, k24, lf', hlf', elf, hSt⟩ ih
    have hp1 : p < G.1 := by omega
    have hpl : G.2.1 p = x := (hrng p hp1).mpr ⟨hBp, hp⟩
    have h5 := (w.2.1 p hp1).2
    have hG' := hG.fr hf (fun k hk => by unfold isPu gId; omega)
    obtain ⟨N, hN⟩ : ∃ N, N = G.2.2.1 p := ⟨_, rfl⟩
    rw [← hN] at h5
    rw [(begE t hf).2, bd_ok, if_neg (by rw [le_ok (by omega) (by omega)]; omega), length_c hG' w hp1, bd_ok, ← hN]
    refine wp_dn2 (fun j t2 => j ≤ N ∧ Fr isPu s t2 ∧ (∀ k, k ≠ 9 → t2.1 24 k = t.1 24 k) ∧ SKC G u L fr (rhs G p (N - j) j ++ st) t2) ?_ ?_ n N t ⟨Nat.le_refl _, hf, fun _ _ => rfl, by rw [Nat.sub_self]; exact hSt⟩ (by omega)
    · rintro rec2 j t2 ⟨hjN, hf2, k2, hS2⟩ ih2
      have hG2 := hG.fr hf2 (fun k hk => by unfold isPu gId; omega)
      have hjN' : j < G.2.2.1 p := by omega
      have h16' := sy16 w hp1 hjN'
      have hK2 : KL G u L t2 := h.fr hf2 (by unfold isPu; omega) (by unfold isPu; omega) (by unfold isPu; omega) (by rw [k2 7 (by decide), k24 7 (by decide) (by decide)])
      rw [if_neg (nlt0 (by omega)), symbolAt_c hG2 w hp1 hjN', bd_ok]
      refine wp_call (push_c hK2 hS2 (by rw [List.length_append, rhs_len]; omega) h16' hfr hn) (fun _ t3 ⟨hf3, k3, hS3⟩ => ?_)
      rw [dn_m]
      refine ih2 _ ⟨by omega, hf2.tr hf3, fun k hk => by rw [k3 k hk]; exact k2 k hk, ?_⟩
      rw [show N - j = (N - (j + 1)) + 1 by omega]
      exact hS3
    · rintro rec2 t2 ⟨_, hf2, k2, hS2⟩
      rw [Nat.sub_zero] at hS2
      have eR : rhs G p N 0 ++ st = rh G p ++ st := by rw [hN]; rfl
      rw [eR] at hS2
      have hlen : (rh G p ++ st).length = N + st.length := by
        rw [List.length_append, hN]
        show (rhs G p (G.2.2.1 p) 0).length + _ = _
        rw [rhs_len]
      have htop : t2.1 26 (9 * (N + st.length) + fr) = nI (its G u L st fr p) := by
        have := STK.top _ hS2.2 fr (Nat.le_refl _) hfr
        rw [hlen] at this
        exact this
      have h92 := hS2.1
      rw [hlen] at h92
      have hle : its G u L st fr p ≤ 1000000000 := sat_le _
      rw [if_pos dn_neg, h92]
      simp (disch := omega) only [nI_mulN, nI_add, ra_ok, Nat.mul_comm (N + st.length) 9, htop, k2 10 (by decide), hlf', le_ok]
      by_cases hc : its G u L st fr p ≤ lf'
      · rw [if_pos hc, nI_subN hc]
        refine ih _ ⟨by omega, (hf2.tr (Fr.si (Or.inl rfl))).tr (Fr.si (Or.inl rfl)), fun k k1 k2' => ?_, lf' - its G u L st fr p, ?_, ?_, ?_⟩
        · simp [si_1, k1, k2']
          rw [k2 k k1]
          exact k24 k k1 k2'
        · simp [si_1]
        · show lf = _ + (pS G (its G u L st fr) x p + if G.2.1 p = x then its G u L st fr p else 0)
          rw [if_pos hpl]
          omega
        · refine ⟨by simp [si_1], ?_⟩
          have := STK.app (rh G p) hS2.2
          refine STK.mono hL (Nat.le_refl _) st (fun i z hi hz => ?_) (fun k v hk hz => ?_) this
          · rw [si_r _ _ _ _ (by decide), si_r _ _ _ _ (by decide)]; exact hz
          · rw [si_r _ _ _ _ (by decide), si_r _ _ _ _ (by decide)]; exact hz
      · rw [if_neg hc]
        exact wp_some ⟨hf2, fun k k1 k2' => by rw [k2 k k1]; exact k24 k k1 k2', p, lf', ⟨hp1, hpl, by omega, elf⟩, rfl, by rw [k2 10 (by decide)]; exact hlf', hS2⟩
  · rintro rec t ⟨_, hf, k24, lf', hlf', elf, hSt⟩
    exfalso
    have hh : pS G (its G u L st fr) x G.1 = pS G (its G u L st fr) x E := by
      have := pS_hi (G := G) (f := its G u L st fr) (x := x) (m := E) (G.1 - E) (fun p k1 k2 hx => by
        have := (hrng p (by omega)).mp hx
        omega)
      rw [show E + (G.1 - E) = G.1 by omega] at this
      exact this
    omega
  · rw [pS_lo B (fun p hp hx => by
      have := (hrng p (by omega)).mp hx
      omega)]
    rfl
def isLi (q : Nat) : Prop := q = 24 ∨ q = 25 ∨ q = 26 ∨ q = 27
theorem list_c {G : Gr} {g : Nat} {u : Nat → Nat} {L : Nat} {s : PH} (hG : CG G g s) (hg : g < 6) (w : WG G) (hA : ACY G) (h : KL G u L s) {j : Nat} (hj : j < 2) (hjt : j < NT G u (G.2.1 0) 0 L) {n : Nat} (hn : 300 ≤ n) : wp (fX2_list n g (nI j) s) (fun r t => Fr isLi s t ∧ (∀ k, k ≠ 9 → k ≠ 10 → t.1 24 k = s.1 24 k) ∧ (∃ c ps, LE2 G u L j c ps ∧ r = nI c ∧ c ≤ 200 ∧ ∀ i, i < c → t.1 27 (200 * j + i) = nI (ps i)) ∧ ∀ k, (k < 200 * j ∨ 200 * j + 200 ≤ k) → t.1 27 k = s.1 27 k) := by
  have hL := h.2.2.2.1
  have h6 := lft6 w w.1.1
  unfold fX2_list
  simp only [lt_def]
  have f3 : Fr isLi s (si s 24 10 (nI j)) := Fr.si (Or.inl rfl)
  have hG3 := hG.fr f3 (fun k hk => by unfold isLi gId; omega)
  have hK3 : KL G u L (si s 24 10 (nI j)) := h.fr f3 (by unfold isLi; omega) (by unfold isLi; omega) (by unfold isLi; omega) (by simp [si_1])
  rw [start_c hG3 w, bd_ok, nI_add]
  refine wp_call (startStack_c hK3 (show 10 + G.2.1 0 < 16 by omega) (show 20 ≤ n by omega)) (fun _ t0 ⟨hf0, k0, hS0⟩ => ?_)
  have pl : ∀ q, isPu q → isLi q := fun q hq => by unfold isPu at hq; unfold isLi; omega
  refine wp_loo4 (fun v8 v9 v10 t => ∃ c fr lf st ps, v8 = nI c ∧ v9 = nI fr ∧ v10 = nI (c + fr) ∧ c ≤ 200 ∧ Fr isLi s t ∧ (∀ k, k ≠ 9 → k ≠ 10 → t.1 24 k = s.1 24 k) ∧ CFg G u L j ps st fr lf c ∧ SKC G u L fr st t ∧ t.1 24 10 = nI lf ∧ (∀ i, i < c → t.1 27 (200 * j + i) = nI (ps i)) ∧ ∀ k, (k < 200 * j ∨ 200 * j + 200 ≤ k) → t.1 27 k = s.1 27 k) (fun _ _ v10 _ => 208 - v10.toNatClampNeg) ?_ n _ _ _ t0 ⟨0, 0, j, [10 + G.2.1 0], fun _ => 0, rfl, rfl, rfl, Nat.zero_le _, f3.tr (hf0.wk pl), fun k k1 k2 => ?_, CFg.start w _ hjt, hS0, ?_, fun i hi => absurd hi (Nat.not_lt_zero i), fun k _ => ?_⟩ (by omega)
  · rintro rec v8 v9 v10 t ⟨c, fr, lf, st, ps, rfl, rfl, rfl, hc200, hf, k24, hCF, hS, h10, h27, h27'⟩ ih
    obtain ⟨hRN, hfr, hlen, hSY, hlf, hlfj⟩ := id hCF
    have done : (st = [] ∨ c = 200) → wp (some (nI c, t)) (fun r t => Fr isLi s t ∧ (∀ k, k ≠ 9 → k ≠ 10 → t.1 24 k = s.1 24 k) ∧ (∃ c ps, LE2 G u L j c ps ∧ r = nI c ∧ c ≤ 200 ∧ ∀ i, i < c → t.1 27 (200 * j + i) = nI (ps i)) ∧ ∀ k, (k < 200 * j ∨ 200 * j + 200 ≤ k) → t.1 27 k = s.1 27 k) :=
      fun hd => wp_some ⟨hf, k24, ⟨c, ps, ⟨_, st, fr, lf, hRN, hd, hc200⟩, rfl, hc200, h27⟩, h27'⟩
    simp (disch := omega) only [le_ok]
    by_cases c1 : 208 ≤ c + fr
    · rw [if_pos c1]
      exact done (Or.inr (by omega))
    · rw [if_neg c1, hS.1, ilez (by omega)]
      cases st with
      | nil =>
        rw [if_pos (show ([] : List Nat).length ≤ 0 from Nat.le_refl _)]
        exact done (Or.inl rfl)
      | cons y st0 =>
        have el : (y :: st0).length = st0.length + 1 := rfl
        rw [el] at hlen
        have h9 := hS.1
        rw [el] at h9 ⊢
        rw [if_neg (by omega)]
        by_cases c2 : 200 ≤ c
        · rw [if_pos c2]
          exact done (Or.inr (by omega))
        · rw [if_neg c2]
          have hy := hSY y List.mem_cons_self
          have r25 : t.1 25 (st0.length + 1) = nI y := hS.2.1
          obtain ⟨t1, ht1⟩ : ∃ t1, t1 = si t 24 9 (nI st0.length) := ⟨_, rfl⟩
          have f1 : Fr isLi s t1 := by rw [ht1]; exact hf.tr (Fr.si (Or.inl rfl))
          have k1 : ∀ k, k ≠ 9 → t1.1 24 k = t.1 24 k := by intro k hk; rw [ht1]; simp [si_1, hk]
          have r27 : t1.1 27 = t.1 27 := by rw [ht1, si_r _ _ _ _ (by decide)]
          have hS1 : SKC G u L fr st0 t1 := by
            refine ⟨by rw [ht1]; simp [si_1], STK.mono hL (Nat.le_refl _) st0 (fun i z hi hz => ?_) (fun k v hk hz => ?_) hS.2.2.2⟩
            · rw [ht1, si_r _ _ _ _ (by decide)]; exact hz
            · rw [ht1, si_r _ _ _ _ (by decide)]; exact hz
          simp (disch := omega) only [ra_ok, r25, dn_s, ← ht1, isLetter_c, bd_ok, bI_0, jn_def, nI_add, decide_eq_false_iff_not]
          by_cases hy10 : y < 10
          · rw [if_neg (by omega)]
            refine ih _ _ _ _ ⟨c, fr + 1, lf, st0, ps, rfl, rfl, rfl, hc200, f1, fun k a1 a2 => by rw [k1 k a1]; exact k24 k a1 a2, hCF.letter hy10, ⟨hS1.1, STK.mono hL (by omega) st0 (fun i z hi hz => hz) (fun k v hk hz => hz) hS1.2⟩, by rw [k1 10 (by decide)]; exact h10, by rw [r27]; exact h27, by rw [r27]; exact h27'⟩ ?_
            simp (disch := omega) only [cl_ok]
            omega
          · rw [if_pos hy10]
            have hyr : 10 ≤ y ∧ y < 16 ∧ rI G 6 (y - 10) = true := by
              rcases hy with h | h
              · exact absurd h hy10
              · exact h
            rw [nI_subN hyr.1]
            have ey : 10 + (y - 10) = y := by omega
            have hG1 := hG.fr f1 (fun k hk => by unfold isLi gId; omega)
            have hK1 : KL G u L t1 := h.fr f1 (by unfold isLi; omega) (by unfold isLi; omega) (by unfold isLi; omega) (by rw [k1 7 (by decide)]; exact k24 7 (by decide) (by decide))
            refine wp_call (replace_c hG1 hg w hA hK1 (x := y - 10) (fr := fr) (lf := lf) (st := st0) (by omega) hyr.2.2 hS1 (by omega) (by rw [k1 10 (by decide)]; exact h10) (by rw [ey]; exact hlf) (by omega) hfr (show 20 ≤ n by omega)) (fun r t2 ⟨hf2, kk2, p, lf', hCH, er, h102, hS2⟩ => ?_)
            have hp16 := w.1.2
            have hpl := hCH.1
            rw [er]
            simp (disch := omega) only [nI_mulN, nI_add, wa_ok, cl_ok]
            have r27' : t2.1 27 = t.1 27 := by rw [(hf2 27 (by unfold isPu; omega)).1]; exact r27
            refine ih _ _ _ _ ⟨c + 1, fr, lf', rh G p ++ st0, fun i => if i = c then p else ps i, rfl, rfl, ?_, by omega, (f1.tr (hf2.wk pl)).tr (Fr.si (by unfold isLi; omega)), fun k a1 a2 => ?_, hCF.step w hy10 hCH, ?_, ?_, fun i hi => ?_, fun k hk => ?_⟩ ?_
            · congr 1
              omega
            · rw [si_r _ _ _ _ (by decide), kk2 k a1 a2, k1 k a1]; exact k24 k a1 a2
            · refine ⟨by rw [si_r _ _ _ _ (by decide)]; exact hS2.1, STK.mono hL (Nat.le_refl _) _ (fun i z hi hz => ?_) (fun k v hk hz => ?_) hS2.2⟩
              · rw [si_r _ _ _ _ (by decide)]; exact hz
              · rw [si_r _ _ _ _ (by decide)]; exact hz
            · rw [si_r _ _ _ _ (by decide)]; exact h102
            · rw [si_q]
              dsimp only
              by_cases e : i = c
              · rw [if_pos (by omega), if_pos e]
              · rw [if_neg (by omega), if_neg e, r27']; exact h27 i (by omega)
            · rw [si_q]
              dsimp only
              rw [if_neg (by omega), r27']
              exact h27' k hk
            · simp (disch := omega) only [cl_ok]
              omega
  · rw [k0 k k1]; simp [si_1, k2]
  · rw [k0 10 (by decide)]; simp [si_1]
  · rw [(hf0 27 (by unfold isPu; omega)).1, si_r _ _ _ _ (by decide)]
