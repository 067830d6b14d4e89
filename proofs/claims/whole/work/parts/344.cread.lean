/-! ===== the class: reading a text ===== -/
def isG (g q : Nat) : Prop := 30 + 6 * g ≤ q ∧ q < 36 + 6 * g
theorem open_c {G : Gr} {g x : Nat} {s : PH} (h : CG G g s) (hP : G.1 < 16) (hx : x < 6) (hc : dfb G x = true → 1 ≤ G.1 ∧ G.2.1 (G.1 - 1) = x) : wp (fX4_open g (nI x) s) (fun r t => r = nI 1 ∧ Fr (isG g) s t ∧ CG (addP G x) g t) := by
  obtain ⟨⟨h5, h6⟩, hp, hr⟩ := id h
  obtain ⟨B, E, eB, eE, hBE, hE1, hrng⟩ := hr x hx
  unfold fX4_open
  rw [h5, if_neg (by rw [le_ok (by decide) (by omega)]; omega), if_neg (nlt0 (by omega)), if_pos (by rw [lt_ok (by omega) (by decide)]; exact hx), h6, bit_c _ hx, bd_ok]
  refine wp_jn1 (fun s3 => Fr (isG g) s s3 ∧ s3.1 (gId g 0) 5 = nI G.1 ∧ s3.1 (gId g 0) 6 = nI (mk (dfb (addP G x))) ∧ (∀ k, k ≠ 0 → k ≠ 4 → k < 6 → s3.1 (gId g k) = s.1 (gId g k)) ∧ (∀ z, z < 6 → z ≠ x → s3.1 (gId g 4) z = s.1 (gId g 4) z) ∧ ∃ B', s3.1 (gId g 4) x = nI B' ∧ B' ≤ G.1 ∧ ∀ p, p < G.1 → (G.2.1 p = x ↔ B' ≤ p)) ?_ ?_
  · rintro s3 ⟨hf, a5, a6, ak, a4, B', aB, hB', hBi⟩
    rw [a5, wa_ok _ hP (by decide), cl_ok (by omega), lt_def]
    have b5 : (si s3 (gId g 1) G.1 (nI x)).1 (gId g 0) 5 = nI G.1 := by rw [si_r _ _ _ _ (by unfold gId; omega)]; exact a5
    rw [b5, wa_ok _ hP (by decide), cl_ok (by omega), lt_def]
    have c5 : (si (si s3 (gId g 1) G.1 (nI x)) (gId g 2) G.1 (nI 0)).1 (gId g 0) 5 = nI G.1 := by rw [si_r _ _ _ _ (by unfold gId; omega)]; exact b5
    rw [c5, lt_def, nI_add, wa_ok _ hx (by decide), cl_ok (by omega)]
    have d5 : (si (si (si s3 (gId g 1) G.1 (nI x)) (gId g 2) G.1 (nI 0)) (gId g 0) 5 (nI (G.1 + 1))).1 (gId g 0) 5 = nI (G.1 + 1) := by simp [si_1]
    rw [d5, lt_def]
    obtain ⟨t, ht⟩ : ∃ t, t = si (si (si (si s3 (gId g 1) G.1 (nI x)) (gId g 2) G.1 (nI 0)) (gId g 0) 5 (nI (G.1 + 1))) (gId g 5) x (nI (G.1 + 1)) := ⟨_, rfl⟩
    rw [← ht]
    have r1 : t.1 (gId g 1) = fun b => if b = G.1 then nI x else s.1 (gId g 1) b := by
      rw [ht, si_r _ _ _ _ (by unfold gId; omega), si_r _ _ _ _ (by unfold gId; omega), si_r _ _ _ _ (by unfold gId; omega), si_q, ak 1 (by decide) (by decide) (by decide)]
    have r2 : t.1 (gId g 2) = fun b => if b = G.1 then nI 0 else s.1 (gId g 2) b := by
      rw [ht, si_r _ _ _ _ (by unfold gId; omega), si_r _ _ _ _ (by unfold gId; omega), si_q, si_r _ _ _ _ (by unfold gId; omega), ak 2 (by decide) (by decide) (by decide)]
    have r3 : t.1 (gId g 3) = s.1 (gId g 3) := by
      rw [ht, si_r _ _ _ _ (by unfold gId; omega), si_r _ _ _ _ (by unfold gId; omega), si_r _ _ _ _ (by unfold gId; omega), si_r _ _ _ _ (by unfold gId; omega), ak 3 (by decide) (by decide) (by decide)]
    have r4 : t.1 (gId g 4) = s3.1 (gId g 4) := by
      rw [ht, si_r _ _ _ _ (by unfold gId; omega), si_r _ _ _ _ (by unfold gId; omega), si_r _ _ _ _ (by unfold gId; omega), si_r _ _ _ _ (by unfold gId; omega)]
    have r5 : t.1 (gId g 5) = fun b => if b = x then nI (G.1 + 1) else s.1 (gId g 5) b := by
      rw [ht, si_q, si_r _ _ _ _ (by unfold gId; omega), si_r _ _ _ _ (by unfold gId; omega), si_r _ _ _ _ (by unfold gId; omega), ak 5 (by decide) (by decide) (by decide)]
    have r0 : t.1 (gId g 0) = fun b => if b = 5 then nI (G.1 + 1) else s3.1 (gId g 0) b := by
      rw [ht, si_r _ _ _ _ (by unfold gId; omega), si_q, si_r _ _ _ _ (by unfold gId; omega), si_r _ _ _ _ (by unfold gId; omega)]
    refine wp_some ⟨rfl, ?_, ⟨⟨?_, ?_⟩, fun p hp' => ?_, fun z hz => ?_⟩⟩
    · rw [ht]
      exact (((hf.tr (Fr.si (by unfold isG gId; omega))).tr (Fr.si (by unfold isG gId; omega))).tr (Fr.si (by unfold isG gId; omega))).tr (Fr.si (by unfold isG gId; omega))
    · rw [r0]; rfl
    · rw [r0]
      show (if (6 : Nat) = 5 then _ else s3.1 (gId g 0) 6) = _
      rw [if_neg (by decide), a6]
    · have hp'' : p < G.1 + 1 := hp'
      rw [r1, r2, r3]
      show (if p = G.1 then nI x else s.1 (gId g 1) p) = nI (if p = G.1 then x else G.2.1 p) ∧ (if p = G.1 then nI 0 else s.1 (gId g 2) p) = nI (if p = G.1 then 0 else G.2.2.1 p) ∧ ∀ i, i < (if p = G.1 then 0 else G.2.2.1 p) → s.1 (gId g 3) (5 * p + i) = nI (G.2.2.2 p i)
      by_cases e : p = G.1
      · rw [if_pos e, if_pos e, if_pos e, if_pos e]
        exact ⟨rfl, rfl, fun i hi => absurd hi (Nat.not_lt_zero i)⟩
      · rw [if_neg e, if_neg e, if_neg e, if_neg e]
        exact hp p (by omega)
    · rw [r4, r5]
      by_cases ez : z = x
      · subst ez
        refine ⟨B', G.1 + 1, aB, by dsimp only; rw [if_pos rfl], by omega, Nat.le_refl _, fun p hp' => ?_⟩
        have hp'' : p < G.1 + 1 := hp'
        show (if p = G.1 then z else G.2.1 p) = z ↔ _
        by_cases e : p = G.1
        · rw [if_pos e]
          exact ⟨fun _ => by omega, fun _ => rfl⟩
        · rw [if_neg e, hBi p (by omega)]
          exact ⟨fun h => ⟨h, by omega⟩, fun h => h.1⟩
      · obtain ⟨B2, E2, eB2, eE2, k1, k2, k3⟩ := hr z hz
        refine ⟨B2, E2, by rw [a4 z hz ez]; exact eB2, by dsimp only; rw [if_neg ez]; exact eE2, k1, Nat.le_succ_of_le k2, fun p hp' => ?_⟩
        have hp'' : p < G.1 + 1 := hp'
        show (if p = G.1 then x else G.2.1 p) = z ↔ _
        by_cases e : p = G.1
        · rw [if_pos e]
          exact ⟨fun h => absurd h.symm ez, fun h => by omega⟩
        · rw [if_neg e]
          exact k3 p (by omega)
  · intro j4 hj4
    cases hd : dfb G x with
    | false =>
      have em : mk (fun i => dfb G i || decide (i = x)) = mk (dfb (addP G x)) := mk_congr (fun z _ => dfb_P.symm)
      rw [bI_f, if_pos n0_0, h6, mk_set _ hx, em, lt_def, wa_ok _ hx (by decide), cl_ok (by omega), lt_def]
      have e5 : (si s (gId g 0) 6 (nI (mk (dfb (addP G x))))).1 (gId g 0) 5 = nI G.1 := by simp [si_1, h5]
      rw [e5]
      refine hj4 _ ⟨(Fr.si (by unfold isG gId; omega)).tr (Fr.si (by unfold isG gId; omega)), ?_, ?_, fun k k1 k2 k3 => ?_, fun z hz ez => ?_, G.1, ?_, Nat.le_refl _, fun p hp' => ?_⟩
      · rw [si_r _ _ _ _ (by unfold gId; omega)]; exact e5
      · rw [si_r _ _ _ _ (by unfold gId; omega)]; simp [si_1]
      · rw [si_r _ _ _ _ (by unfold gId; omega), si_r _ _ _ _ (by unfold gId; omega)]
      · rw [si_q]
        dsimp only
        rw [if_neg ez, si_r _ _ _ _ (by unfold gId; omega)]
      · rw [si_q]
        dsimp only
        rw [if_pos rfl]
      · constructor
        · intro e
          have : dfb G x = true := dfb_iff.mpr ⟨p, hp', e⟩
          rw [hd] at this
          cases this
        · intro h1; omega
    | true =>
      rw [bI_t, if_neg n1_0]
      obtain ⟨c1, c2⟩ := hc hd
      have hE : E = G.1 := by
        have := (hrng (G.1 - 1) (by omega)).mp c2
        omega
      refine hj4 _ ⟨Fr.rf, h5, ?_, fun k _ _ _ => rfl, fun z _ _ => rfl, B, eB, by omega, fun p hp' => ?_⟩
      · rw [h6]
        congr 1
        refine mk_congr (fun z _ => ?_)
        rw [dfb_P]
        by_cases ez : z = x
        · rw [ez, hd]; rfl
        · rw [decide_eq_false ez, Bool.or_false]
      · rw [hrng p hp']
        exact ⟨fun h => h.1, fun h => ⟨h, by omega⟩⟩
theorem open_f {G : Gr} {g : Nat} {s : PH} (h : CG G g s) (hP : G.1 = 16) (a : Int32) : fX4_open g a s = some (nI 0, s) := by
  unfold fX4_open
  rw [h.1.1, if_pos (by rw [hP]; exact yle (by decide) (Nat.le_refl _))]
theorem append_c {G : Gr} {g y : Nat} {s : PH} (h : CG G g s) (hP : 1 ≤ G.1 ∧ G.1 ≤ 16) (hlen : ∀ p, p < G.1 → G.2.2.1 p ≤ 5) (hl : G.2.2.1 (G.1 - 1) < 5) : wp (fX4_append g (nI y) s) (fun r t => r = nI 1 ∧ Fr (isG g) s t ∧ CG (addS G y) g t) := by
  obtain ⟨⟨h5, h6⟩, hp, hr⟩ := id h
  have e2 := (hp (G.1 - 1) (by omega)).2.1
  unfold fX4_append
  rw [h5, nI_subN hP.1, lt_def, if_neg (nlt0 (by omega)), ra_ok _ _ (by omega) (by decide), e2, if_pos (by rw [lt_ok (by omega) (by decide)]; exact hl), ra_ok _ _ (by omega) (by decide), e2, nI_mulN, nI_add, wa_ok _ (by omega) (by decide), cl_ok (by omega), lt_def]
  have e2' : (si s (gId g 3) ((G.1 - 1) * 5 + G.2.2.1 (G.1 - 1)) (nI y)).1 (gId g 2) (G.1 - 1) = nI (G.2.2.1 (G.1 - 1)) := by rw [si_r _ _ _ _ (by unfold gId; omega)]; exact e2
  rw [ra_ok _ _ (by omega) (by decide), e2', nI_add, wa_ok _ (by omega) (by decide), cl_ok (by omega), lt_def]
  obtain ⟨t, ht⟩ : ∃ t, t = si (si s (gId g 3) ((G.1 - 1) * 5 + G.2.2.1 (G.1 - 1)) (nI y)) (gId g 2) (G.1 - 1) (nI (G.2.2.1 (G.1 - 1) + 1)) := ⟨_, rfl⟩
  rw [← ht]
  have rk : ∀ k, k ≠ 2 → k ≠ 3 → k < 6 → t.1 (gId g k) = s.1 (gId g k) := by
    intro k k1 k2 k3
    rw [ht, si_r _ _ _ _ (by unfold gId; omega), si_r _ _ _ _ (by unfold gId; omega)]
  have r2 : t.1 (gId g 2) = fun b => if b = G.1 - 1 then nI (G.2.2.1 (G.1 - 1) + 1) else s.1 (gId g 2) b := by
    rw [ht, si_q, si_r _ _ _ _ (by unfold gId; omega)]
  have r3 : t.1 (gId g 3) = fun b => if b = (G.1 - 1) * 5 + G.2.2.1 (G.1 - 1) then nI y else s.1 (gId g 3) b := by
    rw [ht, si_r _ _ _ _ (by unfold gId; omega), si_q]
  refine wp_some ⟨rfl, ?_, ⟨⟨?_, ?_⟩, fun p hp' => ?_, fun z hz => ?_⟩⟩
  · rw [ht]
    exact (Fr.si (by unfold isG gId; omega)).tr (Fr.si (by unfold isG gId; omega))
  · rw [rk 0 (by decide) (by decide) (by decide)]; exact h5
  · rw [rk 0 (by decide) (by decide) (by decide), h6]
    congr 1
    exact mk_congr (fun z _ => dfb_S.symm)
  · have hp'' : p < G.1 := hp'
    obtain ⟨a1, a2, a3⟩ := hp p hp''
    rw [rk 1 (by decide) (by decide) (by decide), r2, r3]
    refine ⟨a1, ?_, fun i hi => ?_⟩
    · show (if p = G.1 - 1 then _ else s.1 (gId g 2) p) = nI (if p = G.1 - 1 then G.2.2.1 p + 1 else G.2.2.1 p)
      by_cases e : p = G.1 - 1
      · rw [if_pos e, if_pos e, e]
      · rw [if_neg e, if_neg e]; exact a2
    · have hi' : i < (if p = G.1 - 1 then G.2.2.1 p + 1 else G.2.2.1 p) := hi
      show (if 5 * p + i = (G.1 - 1) * 5 + G.2.2.1 (G.1 - 1) then nI y else s.1 (gId g 3) (5 * p + i)) = nI (if p = G.1 - 1 ∧ i = G.2.2.1 p then y else G.2.2.2 p i)
      by_cases e : p = G.1 - 1
      · rw [if_pos e] at hi'
        subst e
        by_cases ei : i = G.2.2.1 (G.1 - 1)
        · rw [if_pos (by omega), if_pos ⟨rfl, ei⟩]
        · rw [if_neg (by omega), if_neg (fun h => ei h.2)]
          exact a3 i (by omega)
      · rw [if_neg e] at hi'
        by_cases e5 : 5 * p + i = (G.1 - 1) * 5 + G.2.2.1 (G.1 - 1)
        · exfalso
          have l1 := hlen p hp''
          omega
        · rw [if_neg e5, if_neg (fun h => e h.1)]
          exact a3 i hi'
  · rw [rk 4 (by decide) (by decide) (by decide), rk 5 (by decide) (by decide) (by decide)]
    exact hr z hz
theorem append_f {G : Gr} {g : Nat} {s : PH} (h : CG G g s) (hP : 1 ≤ G.1 ∧ G.1 ≤ 16) (hl : G.2.2.1 (G.1 - 1) = 5) (a : Int32) : fX4_append g a s = some (nI 0, s) := by
  have e2 := (h.2.1 (G.1 - 1) (by omega)).2.1
  unfold fX4_append
  rw [h.1.1, nI_subN hP.1, lt_def, if_neg (nlt0 (by omega)), ra_ok _ _ (by omega) (by decide), e2, if_neg (by rw [hl, lt_ok (by decide) (by decide)]; decide)]
def FU (tx : Nat → Nat) (i : Nat) (f : Nat → Int32) : Prop := ∀ x, x < 6 → (∃ j, j < i ∧ us tx j x ∧ (∀ j', j' < j → ¬ us tx j' x) ∧ f x = nI j) ∨ ((∀ j, j < i → ¬ us tx j x) ∧ f x = nI 1000)
theorem FU.s {tx : Nat → Nat} {i : Nat} {f : Nat → Int32} (h : FU tx i f) (hn : ∀ x, x < 6 → ¬ us tx i x) : FU tx (i + 1) f := by
  intro x hx
  rcases h x hx with ⟨j, h1, h2, h3, h4⟩ | ⟨h1, h2⟩
  · exact Or.inl ⟨j, by omega, h2, h3, h4⟩
  · refine Or.inr ⟨fun j hj hu => ?_, h2⟩
    by_cases e : j = i
    · rw [e] at hu; exact hn x hx hu
    · exact h1 j (by omega) hu
/-- what the reader holds -/
def RS (tx : Nat → Nat) (g i : Nat) (o : Ro) (s : PH) : Prop :=
  match o with
  | .inl (m, x, G) => s.1 3 2 = -9 ∧ s.1 3 4 = nI m ∧ (1 ≤ m → s.1 3 5 = nI x) ∧ CG G g s ∧ FU tx i (s.1 4)
  | .inr (k, p) => s.1 3 2 = nI k ∧ s.1 3 3 = nI p ∧ 1 ≤ k ∧ k ≤ 5
def isRx (g q : Nat) : Prop := q = 3 ∨ q = 4 ∨ isG g q
theorem blame_c (a b : Int32) (s : PH) : fX7_blame a b s = some ((), si (si s 3 2 a) 3 3 b) := rfl
theorem fault_c {tx : Nat → Nat} {g i k p : Nat} {s : PH} (hk : 1 ≤ k ∧ k ≤ 5) (hg : s.2.2 3 1 = g) : Fr (isRx g) s (si (si s 3 2 (nI k)) 3 3 (nI p)) ∧ (si (si s 3 2 (nI k)) 3 3 (nI p)).2.2 3 1 = g ∧ RS tx g i (.inr (k, p)) (si (si s 3 2 (nI k)) 3 3 (nI p)) := by
  refine ⟨(Fr.si (Or.inl rfl)).tr (Fr.si (Or.inl rfl)), hg, ?_, ?_, hk.1, hk.2⟩
  · simp [si_1]
  · simp [si_1]
theorem openAlt_c {tx : Nat → Nat} {G : Gr} {g i m x : Nat} {s : PH} (hg : s.2.2 3 1 = g) (h2 : s.1 3 2 = -9) (h5 : s.1 3 5 = nI x) (hG : CG G g s) (hF : FU tx (i + 1) (s.1 4)) (hx : x < 6) (h16 : G.1 ≤ 16) (hc : dfb G x = true → 1 ≤ G.1 ∧ G.2.1 (G.1 - 1) = x) : wp (fX7_openAlternative (nI i) s) (fun _ t => Fr (isRx g) s t ∧ t.2.2 3 1 = g ∧ RS tx g (i + 1) (opn x G i) t) := by
  unfold fX7_openAlternative
  rw [lt_def, lt_def]
  have f1 : Fr (isRx g) s (si s 3 4 (nI 2)) := Fr.si (Or.inl rfl)
  have e1 : (si s 3 4 (nI 2)).2.2 3 1 = g := hg
  have e5 : (si s 3 4 (nI 2)).1 3 5 = nI x := by simp [si_1, h5]
  have hG1 : CG G g (si s 3 4 (nI 2)) := hG.fr (P := fun q => q = 3) (Fr.si rfl) (fun k hk => by unfold gId; omega)
  rw [e1, e5]
  unfold opn
  by_cases h : G.1 = 16
  · rw [open_f hG1 h, bd_ok, if_pos n0_0, blame_c, bd_ok, nI_add, if_pos h]
    obtain ⟨a, b, c⟩ := fault_c (tx := tx) (i := i + 1) (k := 3) (p := i + 1) ⟨by decide, by decide⟩ e1
    exact wp_some ⟨f1.tr a, b, c⟩
  · rw [if_neg h]
    refine wp_call (open_c hG1 (by omega) hx hc) (fun r t ⟨er, hf, hGt⟩ => ?_)
    rw [er, if_neg n1_0]
    have f3 : t.1 3 = (si s 3 4 (nI 2)).1 3 := (hf 3 (by unfold isG; omega)).1
    refine wp_some ⟨f1.tr (hf.wk (fun q hq => Or.inr (Or.inr hq))), by rw [(hf 3 (by unfold isG; omega)).2.2]; exact e1, ?_, ?_, fun _ => ?_, hGt, ?_⟩
    · rw [f3]; simp [si_1, h2]
    · rw [f3]; simp [si_1]
    · rw [f3]; exact e5
    · rw [(hf 4 (by unfold isG; omega)).1, si_r _ _ _ _ (by decide)]; exact hF
theorem readSym_c {tx : Nat → Nat} {G : Gr} {g i x y : Nat} {s : PH} (hg : s.2.2 3 1 = g) (h2 : s.1 3 2 = -9) (h4 : s.1 3 4 = nI 2) (h5 : s.1 3 5 = nI x) (hG : CG G g s) (hF : FU tx (i + 1) (s.1 4)) (h16 : 1 ≤ G.1 ∧ G.1 ≤ 16) (hlen : ∀ p, p < G.1 → G.2.2.1 p ≤ 5) : wp (fX7_readSymbol (nI y) (nI i) s) (fun _ t => Fr (isRx g) s t ∧ t.2.2 3 1 = g ∧ RS tx g (i + 1) (apn x G y i) t) := by
  unfold fX7_readSymbol
  rw [lt_def, hg]
  unfold apn
  have hl := hlen (G.1 - 1) (by omega)
  by_cases h : G.2.2.1 (G.1 - 1) = 5
  · rw [append_f hG h16 h, bd_ok, if_pos n0_0, blame_c, bd_ok, if_pos h]
    exact wp_some (fault_c ⟨by decide, by decide⟩ hg)
  · rw [if_neg h]
    refine wp_call (append_c hG h16 hlen (by omega)) (fun r t ⟨er, hf, hGt⟩ => ?_)
    rw [er, if_neg n1_0]
    have f3 : t.1 3 = s.1 3 := (hf 3 (by unfold isG; omega)).1
    refine wp_some ⟨hf.wk (fun q hq => Or.inr (Or.inr hq)), by rw [(hf 3 (by unfold isG; omega)).2.2]; exact hg, ?_, ?_, fun _ => ?_, hGt, ?_⟩
    · rw [f3]; exact h2
    · rw [f3]; exact h4
    · rw [f3]; exact h5
    · rw [(hf 4 (by unfold isG; omega)).1]; exact hF
theorem isNon_c {c : Nat} (hc : c < 200) (s : PH) : fX7_isNonterminal (nI c) s = some (if 65 ≤ c ∧ c < 71 then nI 1 else nI 0, s) := by
  unfold fX7_isNonterminal
  rw [ilt (by omega) (by decide), ile (by decide) (by omega)]
  by_cases h1 : c < 65
  · rw [if_pos h1, if_neg (by omega)]
  · rw [if_neg h1]
    by_cases h2 : 71 ≤ c
    · rw [if_pos h2, if_neg (by omega)]
    · rw [if_neg h2, if_pos (by omega)]
theorem us_no {tx : Nat → Nat} {i m l : Nat} {G : Gr} (e : rnA tx i = .inl (m, l, G)) (h : m ≠ 2 ∨ ¬ (65 ≤ tx i ∧ tx i < 71)) : ∀ x, x < 6 → ¬ us tx i x := by
  rintro x hx ⟨⟨l', G', e'⟩, hx'⟩
  rw [e] at e'
  injection e' with e'
  injection e' with e1 _
  rcases h with h | h
  · exact h e1
  · exact h (by omega)
theorem readByte_c {tx : Nat → Nat} {g i m l : Nat} {G : Gr} {s : PH} (e : rnA tx i = .inl (m, l, G)) (hi : i < 100) (h33 : 33 ≤ tx i) (h126 : tx i ≤ 126) (hg : s.2.2 3 1 = g) (hS : RS tx g i (.inl (m, l, G)) s) : wp (fX7_readByte (nI (tx i)) (nI i) s) (fun _ t => Fr (isRx g) s t ∧ t.2.2 3 1 = g ∧ RS tx g (i + 1) (rnA tx (i + 1)) t) := by
  obtain ⟨h2, h4, h5, hG, hF⟩ := hS
  obtain ⟨p1, p2, p3, p4, p5, p6, p7, p8⟩ := PW.all i e
  rw [rnA_s e]
  obtain ⟨c, hc⟩ : ∃ c, c = tx i := ⟨_, rfl⟩
  rw [← hc] at h33 h126 ⊢
  unfold fX7_readByte
  rw [h4]
  have : m = 0 ∨ m = 1 ∨ m = 2 := by omega
  rcases this with rfl | rfl | rfl
  · rw [if_pos n0_0, stp0]
    have hF' := hF.s (us_no e (Or.inl (by decide)))
    unfold fX7_readLeft
    rw [isNon_c (by omega), bd_ok]
    by_cases cn : 65 ≤ c ∧ c < 71
    · rw [if_pos cn, if_pos cn, if_neg n1_0, lt_def, hg, defined_c hG, bd_ok, nI_subN cn.1, bit_c _ (by omega), bd_ok]
      cases hd : dfb G (c - 65) with
      | true =>
        rw [bI_t, if_pos rfl, if_pos rfl, blame_c, bd_ok, bd_ok]
        exact wp_some (fault_c ⟨by decide, by decide⟩ hg)
      | false =>
        rw [bI_f, if_neg (by decide +kernel), if_neg (by decide), lt_def, lt_def, bd_ok]
        refine wp_some ⟨(Fr.si (Or.inl rfl)).tr (Fr.si (Or.inl rfl)), hg, ?_, ?_, fun _ => ?_, ?_, ?_⟩
        · simp [si_1, h2]
        · simp [si_1]
        · simp [si_1]
        · exact hG.fr (P := fun q => q = 3) (Fr.tr (P := fun q => q = 3) (Fr.si rfl) (Fr.si rfl)) (fun k hk => by unfold gId; omega)
        · rw [si_r _ _ _ _ (by decide), si_r _ _ _ _ (by decide)]; exact hF'
    · rw [if_neg cn, if_neg cn, if_pos n0_0, blame_c, bd_ok, bd_ok]
      exact wp_some (fault_c ⟨by decide, by decide⟩ hg)
  · rw [if_neg n1_0, if_neg (by decide +kernel), stp1, ieq (by omega) (by decide)]
    have hF' := hF.s (us_no e (Or.inl (by decide)))
    by_cases cq : c = 61
    · rw [if_pos cq, if_pos cq]
      refine wp_call (openAlt_c (m := 1) hg h2 (h5 (by omega)) hG hF' (p6 (by omega)) p1 (fun hd => ?_)) (fun _ t ht => wp_some ht)
      rw [p7 rfl] at hd
      cases hd
    · rw [if_neg cq, if_neg cq, blame_c, bd_ok]
      exact wp_some (fault_c ⟨by decide, by decide⟩ hg)
  · rw [if_neg (by decide +kernel), if_pos rfl, stp2]
    unfold fX7_readRight
    rw [ieq (by omega) (by decide)]
    by_cases ca : c = 124
    · rw [if_pos ca, if_pos ca]
      have hF' := hF.s (us_no e (Or.inr (by omega)))
      refine wp_call (wp_call (openAlt_c (m := 2) hg h2 (h5 (by omega)) hG hF' (p6 (by omega)) p1 (fun _ => p8 rfl)) (fun _ t ht => wp_some ht)) (fun _ t ht => wp_some ht)
    · rw [if_neg ca, if_neg ca, ieq (by omega) (by decide)]
      by_cases cs : c = 59
      · rw [if_pos cs, if_pos cs, lt_def, bd_ok]
        have hF' := hF.s (us_no e (Or.inr (by omega)))
        refine wp_some ⟨Fr.si (Or.inl rfl), hg, ?_, ?_, fun h => by omega, ?_, ?_⟩
        · simp [si_1, h2]
        · simp [si_1]
        · exact hG.fr (P := fun q => q = 3) (Fr.si rfl) (fun k hk => by unfold gId; omega)
        · rw [si_r _ _ _ _ (by decide)]; exact hF'
      · rw [if_neg cs, if_neg cs, isNon_c (by omega), bd_ok]
        by_cases cn : 65 ≤ c ∧ c < 71
        · rw [if_pos cn, if_pos cn, if_neg n1_0, nI_subN cn.1]
          have hx6 : c - 65 < 6 := by omega
          have hus : us tx i (c - 65) := ⟨⟨l, G, e⟩, by omega⟩
          have hF' : FU tx (i + 1) (fun b => if b = c - 65 then (if nI i < s.1 4 (c - 65) then nI i else s.1 4 (c - 65)) else s.1 4 b) := by
            intro x hx
            dsimp only
            by_cases ex : x = c - 65
            · rw [if_pos ex]
              rcases hF (c - 65) hx6 with ⟨j, k1, k2, k3, k4⟩ | ⟨k1, k2⟩
              · rw [k4, if_neg (by rw [lt_ok (by omega) (by omega)]; omega), ex]
                exact Or.inl ⟨j, by omega, k2, k3, rfl⟩
              · rw [k2, if_pos (by rw [lt_ok (by omega) (by decide)]; omega), ex]
                exact Or.inl ⟨i, by omega, hus, k1, rfl⟩
            · rw [if_neg ex]
              rcases hF x hx with ⟨j, k1, k2, k3, k4⟩ | ⟨k1, k2⟩
              · exact Or.inl ⟨j, by omega, k2, k3, k4⟩
              · refine Or.inr ⟨fun j hj hu => ?_, k2⟩
                by_cases ej : j = i
                · rw [ej] at hu
                  have := hu.2
                  omega
                · exact k1 j (by omega) hu
          rw [ra_ok _ _ hx6 (by decide), wa_ok _ hx6 (by decide), cl_ok (by omega), lt_def]
          obtain ⟨s8, hs8⟩ : ∃ s8, s8 = si s 4 (c - 65) (if nI i < s.1 4 (c - 65) then nI i else s.1 4 (c - 65)) := ⟨_, rfl⟩
          rw [← hs8]
          have e3 : s8.1 3 = s.1 3 := by rw [hs8, si_r _ _ _ _ (by decide)]
          have ey : (nI 10 + nI c) - nI 65 = nI (10 + (c - 65)) := by rw [nI_add, nI_subN (by omega)]; congr 1; omega
          rw [ey]
          have f8 : Fr (isRx g) s s8 := by rw [hs8]; exact Fr.si (Or.inr (Or.inl rfl))
          refine wp_call (wp_call (readSym_c (x := l) (tx := tx) (by rw [hs8]; exact hg) (by rw [e3]; exact h2) (by rw [e3]; exact h4) (by rw [e3]; exact h5 (by omega)) (by rw [hs8]; exact hG.fr (P := fun q => q = 4) (Fr.si rfl) (fun k hk => by unfold gId; omega)) (by rw [hs8, si_q]; exact hF') ⟨(p8 rfl).1, p1⟩ (fun p hp => (p2 p hp).2)) (fun _ t ⟨a, b, d⟩ => wp_some (Φ := fun _ t => Fr (isRx g) s t ∧ t.2.2 3 1 = g ∧ RS tx g (i + 1) (apn l G (10 + (c - 65)) i) t) ⟨f8.tr a, b, d⟩)) (fun _ t ht => wp_some ht)
        · rw [if_neg cn, if_neg cn, if_pos n0_0]
          have hF' := hF.s (us_no e (Or.inr (by omega)))
          simp only [jn_def]
          rw [ilt (by omega) (by decide), ile (by decide) (by omega)]
          by_cases cl : 97 ≤ c ∧ c < 102
          · rw [if_pos cl, if_neg (by omega), if_neg (by omega), nI_subN cl.1]
            exact wp_call (wp_call (readSym_c (x := l) (tx := tx) hg h2 h4 (h5 (by omega)) hG hF' ⟨(p8 rfl).1, p1⟩ (fun p hp => (p2 p hp).2)) (fun _ t ht => wp_some ht)) (fun _ t ht => wp_some ht)
          · rw [if_neg cl]
            have bl : wp (bd (bd (fX7_blame (nI 1) (nI i) s) fun _ s5 => some ((), s5)) fun _ s3 => some ((), s3)) (fun _ t => Fr (isRx g) s t ∧ t.2.2 3 1 = g ∧ RS tx g (i + 1) (.inr (1, i)) t) := by
              rw [blame_c, bd_ok, bd_ok]
              exact wp_some (fault_c ⟨by decide, by decide⟩ hg)
            by_cases c1 : c < 97
            · rw [if_pos c1]; exact bl
            · rw [if_neg c1, if_pos (by omega)]; exact bl
theorem blameUnd_c {tx : Nat → Nat} {g L l : Nat} {G : Gr} {s : PH} (e : rnA tx L = .inl (0, l, G)) (h0 : G.1 ≠ 0) (hL : L ≤ 100) (hg : s.2.2 3 1 = g) (hS : RS tx g L (.inl (0, l, G)) s) {n : Nat} (hn : 20 ≤ n) : wp (fX7_blameUndefined n s) (fun _ t => Fr (isRx g) s t ∧ t.2.2 3 1 = g ∧ ((∃ k p, OF tx L k p ∧ t.1 3 2 = nI k ∧ 1 ≤ k ∧ k ≤ 5 ∧ t.1 3 3 = nI p) ∨ (OO tx L G ∧ t.1 3 2 = -9 ∧ CG G g t))) := by
  obtain ⟨h2, h4, h5, hG, hF⟩ := hS
  unfold fX7_blameUndefined
  rw [lt_def, lt_def]
  refine wp_for3 6 (by omega) (fun k v t => t = s ∧ ((v = nI 1000 ∧ ∀ x, x < k → dfb G x = false → ∀ j, j < L → ¬ us tx j x) ∨ ∃ p, v = nI p ∧ p < L ∧ (∃ x, x < k ∧ dfb G x = false ∧ us tx p x) ∧ ∀ x, x < k → dfb G x = false → ∀ j, j < p → ¬ us tx j x)) ?_ ?_ n 0 _ s (by omega) ⟨rfl, Or.inl ⟨rfl, fun x hx => absurd hx (Nat.not_lt_zero x)⟩⟩ (by omega)
  · rintro rec k v t hk ⟨rfl, hv⟩ ih
    rw [if_neg (by rw [le_ok (by decide) (by omega)]; omega), lt_def, hg, defined_c hG, bd_ok, bit_c _ hk, bd_ok]
    refine wp_jn2 (fun v' t' => t' = t ∧ ((v' = nI 1000 ∧ ∀ x, x < k + 1 → dfb G x = false → ∀ j, j < L → ¬ us tx j x) ∨ ∃ p, v' = nI p ∧ p < L ∧ (∃ x, x < k + 1 ∧ dfb G x = false ∧ us tx p x) ∧ ∀ x, x < k + 1 → dfb G x = false → ∀ j, j < p → ¬ us tx j x)) (fun v' t' ht' => by rw [lt_def, nI_add]; exact ih _ _ ht') ?_
    intro j15 hj15
    have ext : ∀ x, x < k + 1 → x ≠ k → x < k := fun x h1 h2 => by omega
    cases hd : dfb G k with
    | true =>
      rw [bI_t, if_neg n1_0]
      refine hj15 _ _ ⟨rfl, ?_⟩
      have nk : ∀ x, x < k + 1 → dfb G x = false → x < k := by
        intro x hx hx2
        refine ext x hx (fun ex => ?_)
        rw [ex, hd] at hx2
        cases hx2
      rcases hv with ⟨a, b⟩ | ⟨p, a, b, ⟨x, c1, c2, c3⟩, d⟩
      · exact Or.inl ⟨a, fun x hx hx2 => b x (nk x hx hx2) hx2⟩
      · exact Or.inr ⟨p, a, b, ⟨x, by omega, c2, c3⟩, fun x hx hx2 => d x (nk x hx hx2) hx2⟩
    | false =>
      rw [bI_f, if_pos n0_0, ra_ok _ _ hk (by decide), lt_def]
      refine hj15 _ _ ⟨rfl, ?_⟩
      rcases hF k hk with ⟨j, a1, a2, a3, a4⟩ | ⟨a1, a2⟩
      · rw [a4]
        rcases hv with ⟨rfl, b⟩ | ⟨p, rfl, b, ⟨x, c1, c2, c3⟩, d⟩
        · rw [if_pos (by rw [lt_ok (by omega) (by decide)]; omega)]
          refine Or.inr ⟨j, rfl, a1, ⟨k, by omega, hd, a2⟩, fun x hx hx2 i hi => ?_⟩
          by_cases ex : x = k
          · rw [ex]; exact a3 i hi
          · exact b x (by omega) hx2 i (by omega)
        · rw [ilt (by omega) (by omega)]
          by_cases hjp : j < p
          · rw [if_pos hjp]
            refine Or.inr ⟨j, rfl, a1, ⟨k, by omega, hd, a2⟩, fun x hx hx2 i hi => ?_⟩
            by_cases ex : x = k
            · rw [ex]; exact a3 i hi
            · exact d x (by omega) hx2 i (by omega)
          · rw [if_neg hjp]
            refine Or.inr ⟨p, rfl, b, ⟨x, by omega, c2, c3⟩, fun x hx hx2 i hi => ?_⟩
            by_cases ex : x = k
            · rw [ex]; exact a3 i (by omega)
            · exact d x (by omega) hx2 i hi
      · rw [a2]
        rcases hv with ⟨rfl, b⟩ | ⟨p, rfl, b, ⟨x, c1, c2, c3⟩, d⟩
        · rw [if_neg (by rw [lt_ok (by decide) (by decide)]; decide)]
          refine Or.inl ⟨rfl, fun x hx hx2 => ?_⟩
          by_cases ex : x = k
          · rw [ex]; exact a1
          · exact b x (by omega) hx2
        · rw [if_neg (by rw [lt_ok (by decide) (by omega)]; omega)]
          refine Or.inr ⟨p, rfl, b, ⟨x, by omega, c2, c3⟩, fun x hx hx2 i hi => ?_⟩
          by_cases ex : x = k
          · rw [ex]; exact a1 i (by omega)
          · exact d x (by omega) hx2 i hi
  · rintro rec v t ⟨rfl, hv⟩
    rw [if_pos (by rw [le_ok (by decide) (by decide)]; exact Nat.le_refl _)]
    rcases hv with ⟨rfl, b⟩ | ⟨p, rfl, b, ⟨x, c1, c2, c3⟩, d⟩
    · rw [if_pos rfl]
      exact wp_some ⟨Fr.rf, hg, Or.inr ⟨⟨l, e, h0, fun i hi ⟨x, u1, u2, u3⟩ => b x u1 u3 i hi u2⟩, h2, hG⟩⟩
    · rw [if_neg (by rw [eq_ok (by omega) (by decide)]; omega), blame_c, bd_ok]
      obtain ⟨q1, q2, q3, q4, _⟩ := fault_c (tx := tx) (i := L) (k := 5) (p := p) ⟨by decide, by decide⟩ hg
      exact wp_some ⟨q1, q2, Or.inl ⟨5, p, Or.inr ⟨rfl, b, l, G, e, h0, ⟨x, c1, c3, c2⟩, fun i hi ⟨y, u1, u2, u3⟩ => d y u1 u3 i hi u2⟩, q3, by decide, by decide, q4⟩⟩
theorem dropG_c {g n : Nat} {s : PH} (hn : 20 ≤ n) : wp (fX4_drop n g s) (fun _ t => Fr (isG g) s t ∧ CG G00 g t) := by
  unfold fX4_drop
  rw [lt_def, lt_def]
  obtain ⟨s2, hs2⟩ : ∃ s2, s2 = si (si s (gId g 0) 5 (nI 0)) (gId g 0) 6 (nI 0) := ⟨_, rfl⟩
  rw [← hs2]
  have f2 : Fr (isG g) s s2 := by rw [hs2]; exact (Fr.si (by unfold isG gId; omega)).tr (Fr.si (by unfold isG gId; omega))
  refine wp_call (fill_c (m := 6) (by decide) (show 6 < n by omega)) (fun _ t3 ⟨f3, h3⟩ => ?_)
  refine wp_call (fill_c (m := 6) (by decide) (show 6 < n by omega)) (fun _ t4 ⟨f4, h4⟩ => ?_)
  refine wp_some ⟨(f2.tr (f3.wk (fun q hq => by subst hq; unfold isG gId; omega))).tr (f4.wk (fun q hq => by subst hq; unfold isG gId; omega)), ⟨⟨?_, ?_⟩, fun p hp => absurd hp (Nat.not_lt_zero p), fun x hx => ⟨0, 0, ?_, ?_, Nat.le_refl _, Nat.le_refl _, fun p hp => absurd hp (Nat.not_lt_zero p)⟩⟩⟩
  · rw [(f4 _ (by unfold gId; omega)).1, (f3 _ (by unfold gId; omega)).1, hs2]
    simp [si_1]
    rfl
  · rw [(f4 _ (by unfold gId; omega)).1, (f3 _ (by unfold gId; omega)).1, hs2, mk_congr (b := fun _ => false) (fun x _ => dfb_0), mk_no]
    simp [si_1]
  · rw [(f4 _ (by unfold gId; omega)).1]; exact h3 x hx
  · exact h4 x hx
theorem read_c {tx : Nat → Nat} {L g n : Nat} {s : PH} (hT : TX L tx s) (hg : s.2.2 3 1 = g) (hn : 200 ≤ n) : wp (fX7_read n s) (fun _ t => Fr (isRx g) s t ∧ t.2.2 3 1 = g ∧ ((∃ k p, OF tx L k p ∧ t.1 3 2 = nI k ∧ 1 ≤ k ∧ k ≤ 5 ∧ t.1 3 3 = nI p) ∨ ∃ G, OO tx L G ∧ t.1 3 2 = -9 ∧ CG G g t)) := by
  obtain ⟨hL, h11, _, hx⟩ := hT
  unfold fX7_read
  rw [lt_def, hg]
  refine wp_call (dropG_c (show 20 ≤ n by omega)) (fun _ t1 ⟨f1, hG1⟩ => ?_)
  rw [lt_def, lt_def]
  obtain ⟨s4, hs4⟩ : ∃ s4, s4 = si (si t1 3 2 (-9)) 3 4 (nI 0) := ⟨_, rfl⟩
  rw [← hs4]
  have g1 : t1.2.2 3 1 = g := by rw [(f1 3 (by unfold isG; omega)).2.2]; exact hg
  have f1' : Fr (isRx g) s t1 := f1.wk (fun q hq => Or.inr (Or.inr hq))
  have f4 : Fr (isRx g) s s4 := by rw [hs4]; exact (f1'.tr (Fr.si (Or.inl rfl))).tr (Fr.si (Or.inl rfl))
  have hG4 : CG G00 g s4 := by rw [hs4]; exact hG1.fr (P := fun q => q = 3) (Fr.tr (P := fun q => q = 3) (Fr.si rfl) (Fr.si rfl)) (fun k hk => by unfold gId; omega)
  have g4 : s4.2.2 3 1 = g := by rw [hs4]; exact g1
  refine wp_call (fill_c (q := 4) (m := 6) (v := nI 1000) (by decide) (show 6 < n by omega)) (fun _ t5 ⟨f5, h5⟩ => ?_)
  rw [lt_def]
  have e53 : t5.1 3 = s4.1 3 := (f5 3 (by omega)).1
  have F5 : Fr (isRx g) s t5 := f4.tr (f5.wk (fun q hq => Or.inr (Or.inl hq)))
  have g5 : t5.2.2 3 1 = g := by rw [(f5 3 (by omega)).2.2]; exact g4
  refine wp_loo2 (fun v t => ∃ j, j ≤ L ∧ v = nI j ∧ Fr (isRx g) s t ∧ t.2.2 3 1 = g ∧ RS tx g j (rnA tx j) t) (fun v _ => L - v.toNatClampNeg) ?_ n _ t5 ⟨0, Nat.zero_le _, rfl, F5, g5, ?_, ?_, fun h => absurd h (by decide), hG4.fr f5 (fun k hk => by unfold gId; omega), fun x hx => Or.inr ⟨fun j hj => absurd hj (Nat.not_lt_zero j), h5 x hx⟩⟩ (by omega)
  · rintro rec v t ⟨j, hj, rfl, hf, hgt, hS⟩ ih
    have r11 : t.1 1 1 = nI L := by rw [(hf 1 (by unfold isRx isG; omega)).1]; exact h11
    unfold fX8_size
    rw [bd_ok, r11]
    refine wp_jn1 (fun t' => t' = t ∧ (j = L ∨ ∃ f, rnA tx j = .inr f)) ?_ ?_
    · rintro t' ⟨rfl, hend⟩
      refine wp_jn1 (fun t2 => Fr (isRx g) s t2 ∧ t2.2.2 3 1 = g ∧ ((∃ k p, FT1 tx L k p ∧ t2.1 3 2 = nI k ∧ 1 ≤ k ∧ k ≤ 5 ∧ t2.1 3 3 = nI p) ∨ ∃ l G, rnA tx L = .inl (0, l, G) ∧ G.1 ≠ 0 ∧ RS tx g L (.inl (0, l, G)) t2)) ?_ ?_
      · rintro t2 ⟨hf2, hg2, hcase⟩
        rcases hcase with ⟨k, p, a1, a2, a3, a4, a5⟩ | ⟨l, G, a1, a2, a3⟩
        · rw [a2, if_neg (neg_lt (by omega))]
          exact wp_some ⟨hf2, hg2, Or.inl ⟨k, p, Or.inl a1, a2, a3, a4, a5⟩⟩
        · rw [a3.1, if_pos rfl]
          refine wp_call (blameUnd_c a1 a2 hL hg2 a3 (show 20 ≤ n by omega)) (fun _ t3 ⟨b1, b2, b3⟩ => wp_some ⟨hf2.tr b1, b2, ?_⟩)
          rcases b3 with b3 | b3
          · exact Or.inl b3
          · exact Or.inr ⟨G, b3⟩
      · intro j15 hj15
        cases e : rnA tx j with
        | inr f =>
          obtain ⟨k, p⟩ := f
          rw [e] at hS
          obtain ⟨a1, a2, a3, a4⟩ := hS
          rw [a1, if_neg (neg_lt (by omega))]
          exact hj15 _ ⟨hf, hgt, Or.inl ⟨k, p, Or.inl (rnA_le e hj), a1, a3, a4, a2⟩⟩
        | inl a =>
          obtain ⟨m, l, G⟩ := a
          have hjL : j = L := by
            rcases hend with h | ⟨f, h⟩
            · exact h
            · rw [e] at h; cases h
          subst hjL
          rw [e] at hS
          obtain ⟨a1, a2, a3, a4, a5⟩ := id hS
          have hP := PW.all j e
          have hm := hP.2.2.2.2.1
          rw [a1, if_pos rfl]
          refine wp_jn1 (fun t2 => t2 = t' ∧ (m ≠ 0 ∨ G.1 = 0)) ?_ ?_
          · rintro t2 ⟨rfl, hbad⟩
            rw [bd_ok, r11, blame_c, bd_ok]
            obtain ⟨q1, q2, q3, q4, _⟩ := fault_c (tx := tx) (i := j) (k := 1) (p := j) ⟨by decide, by decide⟩ hgt
            exact hj15 _ ⟨hf.tr q1, q2, Or.inl ⟨1, j, Or.inr ⟨rfl, rfl, m, l, G, e, hbad⟩, q3, by decide, by decide, q4⟩⟩
          · intro j18 hj18
            rw [a2]
            by_cases hm0 : m = 0
            · subst hm0
              rw [if_pos n0_0, lt_def, hgt, count_c a4, bd_ok]
              have h16 := hP.1
              by_cases hc : G.1 = 0
              · rw [hc, if_pos n0_0]
                exact hj18 _ ⟨rfl, Or.inr hc⟩
              · rw [if_neg (by rw [eq0_ok (by omega)]; exact hc)]
                exact hj15 _ ⟨hf, hgt, Or.inr ⟨l, G, e, hc, hS⟩⟩
            · rw [if_neg (by rw [eq0_ok (by omega)]; exact hm0)]
              exact hj18 _ ⟨rfl, Or.inl hm0⟩
    · intro j13 hj13
      rw [ile (by omega) (by omega)]
      by_cases hjL : L ≤ j
      · rw [if_pos hjL]
        exact hj13 _ ⟨rfl, Or.inl (by omega)⟩
      · rw [if_neg hjL]
        cases e : rnA tx j with
        | inr f =>
          obtain ⟨k, p⟩ := f
          have hS' := hS
          rw [e] at hS'
          rw [hS'.1, if_neg (neg_lt (by have := hS'.2.2.2; omega))]
          exact hj13 _ ⟨rfl, Or.inr ⟨_, e⟩⟩
        | inl a =>
          obtain ⟨m, l, G⟩ := a
          have hS' := hS
          rw [e] at hS'
          obtain ⟨x1, _, x3, x4⟩ := hx j (by omega)
          have r2 : t.1 2 j = nI (tx j) := by rw [(hf 2 (by unfold isRx isG; omega)).1]; exact x1
          unfold fX8_at
          rw [hS'.1, if_pos rfl, if_neg (nlt0 (by omega)), r11, if_neg (by rw [le_ok (by omega) (by omega)]; omega), ra_ok _ _ (by omega) (by decide), r2, bd_ok]
          refine wp_call (readByte_c e (by omega) x3 x4 hgt hS') (fun _ t2 ⟨b1, b2, b3⟩ => ?_)
          rw [lt_def, nI_add]
          refine ih _ _ ⟨j + 1, by omega, rfl, hf.tr b1, b2, b3⟩ ?_
          rw [cl_ok (by omega), cl_ok (by omega)]
          omega
  · rw [e53, hs4]; simp [si_1]
  · rw [e53, hs4]; simp [si_1]
