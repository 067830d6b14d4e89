/-! ===== the reference: undefined nonterminals, a text that is loaded ===== -/
theorem finds_m {L : Nat} {tx : Nat → Nat} {s : PH} (h : TM L tx s) {l : Nat} {G : Gr} (hr : rnA tx L = .inl (0, l, G)) (h0 : G.1 ≠ 0) (hG : MG G (s.1 165)) {n : Nat} (hn : 300 ≤ n) : wp (fX12_finds n s) (fun _ t => FrR s t ∧ t.1 165 = s.1 165 ∧ ((t.1 148 22 = nI 0 ∧ OO tx L G) ∨ (t.1 148 22 = nI 5 ∧ ∃ p, p ≤ L ∧ OF tx L 5 p ∧ t.1 148 21 = nI p))) := by
  have hL := h.1
  obtain ⟨p1, p2, p3, p4, p5, p6, p7, p8⟩ := PW.all L hr
  unfold fX12_finds
  rw [lt_def, lt_def]
  refine wp_loo2 (fun v t => ∃ i, i ≤ L ∧ FrR s t ∧ t.1 165 = s.1 165 ∧ t.1 148 21 = nI i ∧ (∀ i', i' < i → ¬ UND tx G i') ∧ (v = nI 1 ∨ (v = nI 0 ∧ i < L ∧ UND tx G i))) (fun v t => 2 * (L - (t.1 148 21).toNatClampNeg) + v.toNatClampNeg) ?_ n _ _ ⟨0, Nat.zero_le _, FrR.s21, by rw [si_r _ _ _ _ (by decide)], by simp [si_1], fun i' hi' => absurd hi' (Nat.not_lt_zero i'), Or.inl rfl⟩ ?_
  · rintro rec v t ⟨i, hi, hf, t165, t21, hno, hv⟩ ih
    have hTt := h.fr hf
    have t4 := hTt.2.1
    refine wp_jn1 (fun t' => t' = t ∧ (v = nI 0 ∨ i = L)) ?_ ?_
    · rintro t' ⟨rfl, hend⟩
      simp only [jn_def, lt_def]
      rcases hv with rfl | ⟨rfl, hiL, hU⟩
      · have ei : i = L := by
          rcases hend with h1 | h1
          · exact absurd h1 (by decide +kernel)
          · exact h1
        rw [if_neg n1_0]
        refine wp_some ⟨hf.tr FrR.s22, by rw [si_r _ _ _ _ (by decide)]; exact t165, Or.inl ⟨by simp [si_1], l, hr, h0, fun i' hi' => hno i' (by omega)⟩⟩
      · rw [if_pos n0_0]
        exact wp_some ⟨hf.tr FrR.s22, by rw [si_r _ _ _ _ (by decide)]; exact t165, Or.inr ⟨by simp [si_1], i, hi, Or.inr ⟨rfl, hiL, l, G, hr, h0, hU, hno⟩, by simp [si_1, t21]⟩⟩
    · intro j7 hj7
      rw [t4, t21, ile (by omega) (by omega)]
      by_cases hLi : L ≤ i
      · rw [if_pos hLi]
        exact hj7 _ ⟨rfl, Or.inr (by omega)⟩
      · rw [if_neg hLi]
        rcases hv with rfl | ⟨rfl, hiL, hU⟩
        · rw [if_neg n1_0]
          obtain ⟨x1, x2, x3⟩ := hTt.2.2 i (by omega)
          have hus := us_iff hr (show i < L by omega)
          obtain ⟨C, hC⟩ : ∃ C : Prop, C = (65 ≤ tx i ∧ tx i < 71 ∧ ¬ (i + 1 < L ∧ tx (i + 1) = 61)) := ⟨_, rfl⟩
          have hUi : UND tx G i ↔ (C ∧ ∀ q, q < G.1 → G.2.1 q ≠ tx i - 65) := by
            rw [hC, ← hus]
            constructor
            · rintro ⟨x, u1, u2, u3⟩
              refine ⟨⟨x, u1, u2⟩, fun q hq e => ?_⟩
              have : dfb G x = true := dfb_iff.mpr ⟨q, hq, by rw [e]; have := u2.2; omega⟩
              rw [u3] at this
              cases this
            · rintro ⟨⟨x, u1, u2⟩, u3⟩
              refine ⟨x, u1, u2, ?_⟩
              cases hd : dfb G x with
              | false => rfl
              | true =>
                obtain ⟨q, hq, e⟩ := dfb_iff.mp hd
                exact absurd (by rw [e]; have := u2.2; omega) (u3 q hq)
          refine wp_jn2 (fun v12 t' => t' = t ∧ PB v12 (i + 1 < L ∧ tx (i + 1) = 61)) ?_ ?_
          · rintro v12 t' ⟨rfl, hv12⟩
            rw [lt_def, isAt_m hTt t21 hi (by decide) (by decide), bd_ok]
            refine wp_jn2 (fun v18 t2 => t2 = t' ∧ PB v18 C) ?_ ?_
            · rintro v18 t2 ⟨rfl, hv18⟩
              rw [lt_def, lt_def]
              refine wp_for3 G.1 (by omega) (fun p v t3 => t3 = t2 ∧ PB v (C ∧ ∀ q, q < p → G.2.1 q ≠ tx i - 65)) ?_ ?_ n 0 _ t2 (Nat.zero_le _) ⟨rfl, hv18.of ⟨fun hc => ⟨hc, fun q hq => absurd hq (Nat.not_lt_zero q)⟩, fun hc => hc.1⟩⟩ (by omega)
              · rintro rec2 p v t3 hp ⟨rfl, hvp⟩ ih2
                have hl6 := (p2 p hp).1
                rw [ra_ok _ _ (by decide) (by decide), t165, hG.1, if_neg (by rw [le_ok (by omega) (by omega)]; omega)]
                simp only [jn_def, lt_def]
                have go : ∀ v', PB v' (C ∧ ∀ q, q < p + 1 → G.2.1 q ≠ tx i - 65) → wp (rec2 v' (nI p + nI 1) t3) (fun _ t => FrR s t ∧ t.1 165 = s.1 165 ∧ ((t.1 148 22 = nI 0 ∧ OO tx L G) ∨ (t.1 148 22 = nI 5 ∧ ∃ p, p ≤ L ∧ OF tx L 5 p ∧ t.1 148 21 = nI p))) := by
                  intro v' hv'
                  rw [nI_add]
                  exact ih2 _ _ ⟨rfl, hv'⟩
                by_cases hv0 : v = 0
                · rw [if_pos hv0]
                  exact go _ (PB.f (fun hc => hvp.eq hv0 ⟨hc.1, fun q hq => hc.2 q (by omega)⟩))
                · obtain ⟨c1, c2⟩ := hvp.ne hv0
                  have c65 : 65 ≤ tx i ∧ tx i < 71 := by rw [hC] at c1; exact ⟨c1.1, c1.2.1⟩
                  rw [if_neg hv0, nI_add, ra_ok _ _ (by omega) (by decide), (hG.2 p hp).1, t21, ra_ok _ _ (by omega) (by decide), x1, nI_subN c65.1, ieq (by omega) (by omega)]
                  by_cases e : G.2.1 p = tx i - 65
                  · rw [if_pos e]
                    exact go _ (PB.f (fun hc => hc.2 p (by omega) e))
                  · rw [if_neg e]
                    refine go _ (PB.t ⟨c1, fun q hq => ?_⟩)
                    by_cases eq : q = p
                    · rw [eq]; exact e
                    · exact c2 q (by omega)
              · rintro rec2 v t3 ⟨rfl, hvp⟩
                rw [ra_ok _ _ (by decide) (by decide), t165, hG.1, if_pos (by rw [le_ok (by omega) (by omega)]; exact Nat.le_refl _)]
                simp only [jn_def, lt_def]
                by_cases hv0 : v = 0
                · rw [if_pos hv0, if_neg n1_0, t21, nI_add]
                  refine ih _ _ ⟨i + 1, by omega, hf.tr FrR.s21, by rw [si_r _ _ _ _ (by decide)]; exact t165, by simp [si_1], fun i' hi' => ?_, Or.inl rfl⟩ ?_
                  · by_cases ei : i' = i
                    · rw [ei]
                      exact fun hU => hvp.eq hv0 (hUi.mp hU)
                    · exact hno i' (by omega)
                  · have e21 : (si t3 148 21 (nI (i + 1))).1 148 21 = nI (i + 1) := by simp [si_1]
                    rw [e21, t21]
                    simp (disch := omega) only [cl_ok]
                    omega
                · rw [if_neg hv0, if_pos n0_0, t21, nI_add]
                  refine ih _ _ ⟨i, hi, hf.tr FrR.s21, by rw [si_r _ _ _ _ (by decide)]; exact t165, by simp [si_1], hno, Or.inr ⟨rfl, by omega, hUi.mpr (hvp.ne hv0)⟩⟩ ?_
                  have e21 : (si t3 148 21 (nI (i + 0))).1 148 21 = nI i := by simp [si_1]
                  rw [e21, t21]
                  simp (disch := omega) only [cl_ok]
                  omega
            · intro j20 hj20
              simp only [jn_def]
              by_cases hu : i < L ∧ 65 ≤ tx i ∧ tx i ≤ 70
              · rw [decide_eq_true hu, bI_t, if_neg n1_0]
                by_cases hv0 : v12 = 0
                · rw [if_pos hv0]
                  exact hj20 _ _ ⟨rfl, PB.t (by rw [hC]; exact ⟨hu.2.1, by omega, hv12.eq hv0⟩)⟩
                · rw [if_neg hv0]
                  exact hj20 _ _ ⟨rfl, PB.f (by rw [hC]; exact fun hc => hc.2.2 (hv12.ne hv0))⟩
              · rw [decide_eq_false hu, bI_f, if_pos n0_0]
                exact hj20 _ _ ⟨rfl, PB.f (by rw [hC]; exact fun hc => hu ⟨by omega, hc.1, by omega⟩)⟩
          · intro j14 hj14
            simp only [jn_def]
            rw [nI_add, ile (by omega) (by omega)]
            by_cases hl1 : L ≤ i + 1
            · rw [if_pos hl1]
              exact hj14 _ _ ⟨rfl, PB.f (by omega)⟩
            · obtain ⟨y1, y2, y3⟩ := hTt.2.2 (i + 1) (by omega)
              rw [if_neg hl1, ra_ok _ _ (by omega) (by decide), y1, ieq (by omega) (by decide)]
              by_cases h61 : tx (i + 1) = 61
              · rw [if_pos h61]
                exact hj14 _ _ ⟨rfl, PB.t ⟨by omega, h61⟩⟩
              · rw [if_neg h61]
                exact hj14 _ _ ⟨rfl, PB.f (fun hc => h61 hc.2)⟩
        · rw [if_pos n0_0]
          exact hj7 _ ⟨rfl, Or.inl rfl⟩
  · have e21 : (si s 148 21 (nI 0)).1 148 21 = nI 0 := by simp [si_1]
    rw [e21, cl_ok (by decide), cl_ok (by decide)]
    omega
/-- the remembered grammars of the reference, one more -/
def HM (s t : PH) : Prop := ∃ h, h ≤ 4 ∧ s.1 148 2 = nI h ∧ ((h < 4 ∧ t.1 148 2 = nI (h + 1) ∧ (∀ i k, i < h → k < 113 → t.1 150 (113 * i + k) = s.1 150 (113 * i + k)) ∧ ∀ k, k < 113 → t.1 150 (113 * h + k) = s.1 149 k) ∨ (h = 4 ∧ t.1 148 2 = nI 4 ∧ (∀ i k, i < 3 → k < 113 → t.1 150 (113 * i + k) = s.1 150 (113 * (i + 1) + k)) ∧ ∀ k, k < 113 → t.1 150 (113 * 3 + k) = s.1 149 k))
def isLn (q : Nat) : Prop := (148 ≤ q ∧ q ≤ 150) ∨ q = 165
def isLm (q : Nat) : Prop := (148 ≤ q ∧ q ≤ 150) ∨ (153 ≤ q ∧ q ≤ 165)
theorem load_m {L : Nat} {tx : Nat → Nat} {s : PH} (h : TM L tx s) (hz : ∀ c, c < 216 → s.1 163 c = nI 0) (hh : ∃ h, h ≤ 4 ∧ s.1 148 2 = nI h) {n : Nat} (hn : 30000 ≤ n) : wp (fX12_load n s) (fun r t => (∀ k, k ≠ 2 → k ≠ 5 → k ≠ 21 → k ≠ 22 → t.1 148 k = s.1 148 k) ∧ ((∃ k p, OF tx L k p ∧ 1 ≤ k ∧ k ≤ 5 ∧ r = -10 - nI p ∧ t.1 148 5 = nI k ∧ Fr isRm s t ∧ t.1 148 2 = s.1 148 2) ∨ ∃ G, OO tx L G ∧ r = nI G.1 ∧ t.1 148 5 = -9 ∧ Fr isLm s t ∧ MLd G t ∧ GK G ∧ HM s t)) := by
  have hL := h.1
  unfold fX12_load
  rw [lt_def, lt_def, lt_def]
  obtain ⟨s2, hs2⟩ : ∃ s2, s2 = si (si s 148 21 (nI 0)) 148 22 (nI 0) := ⟨_, rfl⟩
  rw [← hs2]
  have f2 : FrR s s2 := by rw [hs2]; exact FrR.s21.tr FrR.s22
  refine wp_for2 113 (by omega) (fun j t => FrR s t ∧ t.1 148 21 = nI 0 ∧ t.1 148 22 = nI 0 ∧ ∀ k, k < j → t.1 165 k = nI 0) ?_ ?_ n 0 s2 (Nat.zero_le _) ⟨f2, by rw [hs2]; simp [si_1], by rw [hs2]; simp [si_1], fun k hk => absurd hk (Nat.not_lt_zero k)⟩ (by omega)
  · rintro rec j t hj ⟨hf, t21, t22, hr0⟩ ih
    rw [if_neg (by rw [le_ok (by decide) (by omega)]; omega), wa_ok _ (by omega) (by decide), cl_ok (by omega), lt_def, lt_def, nI_add]
    refine ih _ ⟨hf.tr FrR.s165, by rw [si_r _ _ _ _ (by decide)]; exact t21, by rw [si_r _ _ _ _ (by decide)]; exact t22, fun k hk => ?_⟩
    rw [si_q]
    dsimp only
    by_cases e : k = j
    · rw [if_pos e]
    · rw [if_neg e]; exact hr0 k (by omega)
  · rintro rec t0 ⟨hf0, t21, t22, hr0⟩
    rw [if_pos (by rw [le_ok (by decide) (by decide)]; exact Nat.le_refl _)]
    have hMG0 : MG G00 (t0.1 165) := ⟨hr0 0 (by decide), fun p hp => absurd hp (Nat.not_lt_zero p)⟩
    refine wp_call (readsRule_m (h.fr hf0) (i := 0) (l := 0) (G := G00) ⟨Nat.zero_le _, rfl, t21, t22, hMG0⟩ (Or.inr rfl) (show 200 ≤ n by omega)) (fun r1 t1 ⟨f1, hc1⟩ => ?_)
    rw [lt_def]
    refine wp_loo2 (fun v t => FrR s t ∧ ((v = nI 0 ∧ FM tx L t) ∨ (v = nI 1 ∧ ∃ j l' G', RM tx L j 0 l' G' t ∧ G'.1 ≠ 0))) (fun v t => if v = nI 0 then 0 else 1 + (L - (t.1 148 21).toNatClampNeg)) ?_ n _ t1 ⟨hf0.tr f1, ?_⟩ ?_
    · rintro rec2 v t ⟨hf, hcase⟩ ih
      have hTt := h.fr hf
      refine wp_jn1 (fun t' => t' = t ∧ (v = nI 0 ∨ t.1 148 21 = nI L)) ?_ ?_
      · rintro t' ⟨rfl, hend⟩
        -- the end of reading
        refine wp_jn1 (fun t2 => FrR s t2 ∧ ((∃ k p, OF tx L k p ∧ 1 ≤ k ∧ k ≤ 5 ∧ t2.1 148 22 = nI k ∧ t2.1 148 21 = nI p) ∨ ∃ G, OO tx L G ∧ t2.1 148 22 = nI 0 ∧ MG G (t2.1 165))) ?_ ?_
        · rintro t2 ⟨hf2, hc2⟩
          refine wp_jn2 (fun v17 t3 => t3 = t2 ∧ ((∃ k p, OF tx L k p ∧ 1 ≤ k ∧ k ≤ 5 ∧ t2.1 148 22 = nI k ∧ t2.1 148 21 = nI p ∧ v17 = nI k) ∨ ∃ G, OO tx L G ∧ t2.1 148 22 = nI 0 ∧ MG G (t2.1 165) ∧ v17 = -9)) ?_ ?_
          · rintro v17 t3 ⟨rfl, hc3⟩
            rw [lt_def]
            have e22 : (si t3 148 5 v17).1 148 22 = t3.1 148 22 := by simp [si_1]
            rw [e22]
            have k148 : ∀ k, k ≠ 5 → k ≠ 21 → k ≠ 22 → (si t3 148 5 v17).1 148 k = s.1 148 k := fun k a b c => by
              rw [si_1, if_neg (fun hh => a hh.2)]
              exact hf2.2 k b c
            rcases hc3 with ⟨k, p, a1, a2, a3, a4, a5, rfl⟩ | ⟨G, a1, a2, a3, rfl⟩
            · rw [a4, ilez (by omega), if_neg (by omega)]
              have e21 : (si t3 148 5 (nI k)).1 148 21 = nI p := by simp [si_1, a5]
              rw [e21]
              exact wp_some ⟨fun k' b1 b2 b3 b4 => k148 k' b2 b3 b4, Or.inl ⟨k, p, a1, a2, a3, rfl, by simp [si_1], hf2.1.tr (Fr.si (Or.inl rfl)), k148 2 (by decide) (by decide) (by decide)⟩⟩
            · rw [a2, ilez (by decide), if_pos (Nat.le_refl _)]
              have wg := a1.wg
              obtain ⟨s20, hs20⟩ : ∃ s20, s20 = si t3 148 5 (-9) := ⟨_, rfl⟩
              rw [← hs20] at k148 ⊢
              have F20 : Fr isLn s s20 := by rw [hs20]; exact (hf2.1.wk (fun q hq => by unfold isRm at hq; unfold isLn; omega)).tr (Fr.si (by unfold isLn; omega))
              have e165 : s20.1 165 = t3.1 165 := by rw [hs20, si_r _ _ _ _ (by decide)]
              have e5 : s20.1 148 5 = -9 := by rw [hs20]; simp [si_1]
              have e149 : s20.1 149 = s.1 149 := by rw [hs20, si_r _ _ _ _ (by decide), (hf2.1 149 (by unfold isRm; omega)).1]
              have e150 : s20.1 150 = s.1 150 := by rw [hs20, si_r _ _ _ _ (by decide), (hf2.1 150 (by unfold isRm; omega)).1]
              have e2 : s20.1 148 2 = s.1 148 2 := k148 2 (by decide) (by decide) (by decide)
              obtain ⟨hc, hc4, ehc⟩ := hh
              -- the copy, from a state in which there is room for one more
              refine wp_jn1 (fun t4 => ∃ h', h' < 4 ∧ Fr isLn s t4 ∧ (∀ k, k ≠ 2 → k ≠ 5 → k ≠ 21 → k ≠ 22 → t4.1 148 k = s.1 148 k) ∧ t4.1 148 5 = -9 ∧ t4.1 148 2 = nI h' ∧ t4.1 149 = s.1 149 ∧ t4.1 165 = t3.1 165 ∧ ((h' = hc ∧ ∀ k, t4.1 150 k = s.1 150 k) ∨ (hc = 4 ∧ h' = 3 ∧ ∀ k, k < 339 → t4.1 150 k = s.1 150 (k + 113)))) ?_ ?_
              · rintro t4 ⟨h', hh', F4, b148, b5, b2, b149, b165, b150⟩
                rw [lt_def]
                refine wp_for2 113 (by omega) (fun j t5 => Fr isLn s t5 ∧ (∀ k, k ≠ 2 → k ≠ 5 → k ≠ 21 → k ≠ 22 → t5.1 148 k = s.1 148 k) ∧ t5.1 148 5 = -9 ∧ t5.1 148 2 = nI h' ∧ t5.1 165 = t3.1 165 ∧ (∀ k, k < j → t5.1 149 k = t3.1 165 k) ∧ (∀ k, j ≤ k → t5.1 149 k = s.1 149 k) ∧ (∀ k, k < 113 * h' → t5.1 150 k = t4.1 150 k) ∧ ∀ k, k < j → t5.1 150 (113 * h' + k) = s.1 149 k) ?_ ?_ n 0 t4 (Nat.zero_le _) ⟨F4, b148, b5, b2, b165, fun k hk => absurd hk (Nat.not_lt_zero k), fun k _ => by rw [b149], fun _ _ => rfl, fun k hk => absurd hk (Nat.not_lt_zero k)⟩ (by omega)
                · rintro rec3 j t5 hj ⟨F5, c148, c5, c2, c165, c149, c149', c150, c150'⟩ ih3
                  rw [if_neg (by rw [le_ok (by decide) (by omega)]; omega), ra_ok _ _ (by omega) (by decide), c2, nI_mulN, nI_add, wa_ok _ (by omega) (by decide), cl_ok (by omega), lt_def]
                  have d165 : (si t5 150 (113 * h' + j) (t5.1 149 j)).1 165 = t3.1 165 := by rw [si_r _ _ _ _ (by decide)]; exact c165
                  rw [ra_ok _ _ (by omega) (by decide), d165, wa_ok _ (by omega) (by decide), cl_ok (by omega), lt_def, lt_def, nI_add]
                  refine ih3 _ ⟨(F5.tr (Fr.si (by unfold isLn; omega))).tr (Fr.si (by unfold isLn; omega)), fun k a b c d => ?_, ?_, ?_, ?_, fun k hk => ?_, fun k hk => ?_, fun k hk => ?_, fun k hk => ?_⟩
                  · rw [si_r _ _ _ _ (by decide), si_r _ _ _ _ (by decide)]; exact c148 k a b c d
                  · rw [si_r _ _ _ _ (by decide), si_r _ _ _ _ (by decide)]; exact c5
                  · rw [si_r _ _ _ _ (by decide), si_r _ _ _ _ (by decide)]; exact c2
                  · rw [si_r _ _ _ _ (by decide)]; exact d165
                  · rw [si_q]
                    dsimp only
                    by_cases e : k = j
                    · rw [if_pos e, e]
                    · rw [if_neg e, si_r _ _ _ _ (by decide)]; exact c149 k (by omega)
                  · rw [si_q]
                    dsimp only
                    rw [if_neg (by omega), si_r _ _ _ _ (by decide)]
                    exact c149' k (by omega)
                  · rw [si_r _ _ _ _ (by decide), si_q]
                    dsimp only
                    rw [if_neg (by omega)]
                    exact c150 k hk
                  · rw [si_r _ _ _ _ (by decide), si_q]
                    dsimp only
                    by_cases e : k = j
                    · rw [if_pos (by omega), e]; exact c149' j (Nat.le_refl _)
                    · rw [if_neg (by omega)]; exact c150' k (by omega)
                · rintro rec3 t5 ⟨F5, c148, c5, c2, c165, c149, c149', c150, c150'⟩
                  rw [if_pos (by rw [le_ok (by decide) (by decide)]; exact Nat.le_refl _), c2, nI_add, lt_def]
                  obtain ⟨s27, hs27⟩ : ∃ s27, s27 = si t5 148 2 (nI (h' + 1)) := ⟨_, rfl⟩
                  rw [← hs27]
                  have F27 : Fr isLn s s27 := by rw [hs27]; exact F5.tr (Fr.si (by unfold isLn; omega))
                  have o27 : ∀ q, q ≠ 148 → s27.1 q = t5.1 q := fun q hq => by rw [hs27, si_r _ _ _ _ hq]
                  have k27 : ∀ k, k ≠ 2 → s27.1 148 k = t5.1 148 k := fun k hk => by rw [hs27]; simp [si_1, hk]
                  have hz27 : ∀ c, c < 216 → s27.1 163 c = nI 0 := by
                    intro c hc'
                    rw [(F27 163 (by unfold isLn; omega)).1]
                    exact hz c hc'
                  have hM27 : MG G (s27.1 149) := MG.cg wg a3 (fun k hk => by rw [o27 149 (by decide)]; exact c149 k hk)
                  refine wp_call (lays_e hM27 wg hz27 hn) (fun _ t6 ⟨F6, hMLd, hFOK, hOOK⟩ => ?_)
                  have e6 : t6.1 148 = s27.1 148 := (F6 148 (by unfold isL; omega)).1
                  have e6' : t6.1 150 = t5.1 150 := by rw [(F6 150 (by unfold isL; omega)).1]; exact o27 150 (by decide)
                  have e62 : t6.1 148 2 = nI (h' + 1) := by rw [e6, hs27]; simp [si_1]
                  rw [many_e hMLd.1, bd_ok]
                  refine wp_some ⟨fun k q1 q2 q3 q4 => ?_, Or.inr ⟨G, a1, rfl, ?_, ?_, hMLd, ⟨wg, hFOK, hOOK⟩, hc, hc4, ehc, ?_⟩⟩
                  · rw [e6, k27 k q1]; exact c148 k q1 q2 q3 q4
                  · rw [e6, k27 5 (by decide)]; exact c5
                  · exact (F27.wk (fun q hq => by unfold isLn at hq; unfold isLm; omega)).tr (F6.wk (fun q hq => by unfold isL at hq; unfold isLm; omega))
                  · rcases b150 with ⟨eh, b150⟩ | ⟨eh, eh', b150⟩
                    · refine Or.inl ⟨by omega, by rw [e62, eh], fun i k hi hk => ?_, fun k hk => ?_⟩
                      · have hlt : 113 * i + k < 113 * h' := by
                          have : 113 * i + 113 ≤ 113 * h' := by omega
                          omega
                        rw [e6', c150 _ hlt]
                        exact b150 _
                      · rw [e6', ← eh]; exact c150' k hk
                    · refine Or.inr ⟨eh, by rw [e62, eh'], fun i k hi hk => ?_, fun k hk => ?_⟩
                      · rw [e6', c150 _ (by omega), b150 _ (by omega), show 113 * i + k + 113 = 113 * (i + 1) + k by omega]
                      · rw [e6', ← eh']; exact c150' k hk
              · intro j22 hj22
                have e2' : s20.1 148 2 = nI hc := by rw [e2]; exact ehc
                rw [e2', ieq (by omega) (by decide)]
                by_cases h4 : hc = 4
                · rw [if_pos h4, lt_def]
                  refine wp_for2 339 (by omega) (fun j t4 => Fr isLn s t4 ∧ t4.1 148 = s20.1 148 ∧ t4.1 149 = s20.1 149 ∧ t4.1 165 = s20.1 165 ∧ (∀ k, k < j → t4.1 150 k = s.1 150 (k + 113)) ∧ ∀ k, j ≤ k → t4.1 150 k = s.1 150 k) ?_ ?_ n 0 s20 (Nat.zero_le _) ⟨F20, rfl, rfl, rfl, fun k hk => absurd hk (Nat.not_lt_zero k), fun k _ => by rw [e150]⟩ (by omega)
                  · rintro rec3 j t4 hj ⟨F4, d148, d149, d165, d150, d150'⟩ ih3
                    rw [if_neg (by rw [le_ok (by decide) (by omega)]; omega), nI_add, ra_ok _ _ (by omega) (by decide), d150' (j + 113) (by omega), wa_ok _ (by omega) (by decide), cl_ok (by omega), lt_def, lt_def, nI_add]
                    refine ih3 _ ⟨F4.tr (Fr.si (by unfold isLn; omega)), ?_, ?_, ?_, fun k hk => ?_, fun k hk => ?_⟩
                    · rw [si_r _ _ _ _ (by decide)]; exact d148
                    · rw [si_r _ _ _ _ (by decide)]; exact d149
                    · rw [si_r _ _ _ _ (by decide)]; exact d165
                    · rw [si_q]
                      dsimp only
                      by_cases e : k = j
                      · rw [if_pos e, e]
                      · rw [if_neg e]; exact d150 k (by omega)
                    · rw [si_q]
                      dsimp only
                      rw [if_neg (by omega)]
                      exact d150' k (by omega)
                  · rintro rec3 t4 ⟨F4, d148, d149, d165, d150, d150'⟩
                    rw [if_pos (by rw [le_ok (by decide) (by decide)]; exact Nat.le_refl _), d148, e2', h4, nI_subN (by decide), lt_def]
                    refine hj22 _ ⟨3, by decide, F4.tr (Fr.si (by unfold isLn; omega)), fun k q1 q2 q3 q4 => ?_, ?_, ?_, ?_, ?_, Or.inr ⟨h4, rfl, fun k hk => ?_⟩⟩
                    · simp [si_1, q1]; rw [d148]; exact k148 k q2 q3 q4
                    · simp [si_1]; rw [d148]; exact e5
                    · simp [si_1]
                    · rw [si_r _ _ _ _ (by decide), d149]; exact e149
                    · rw [si_r _ _ _ _ (by decide), d165]; exact e165
                    · rw [si_r _ _ _ _ (by decide)]; exact d150 k hk
                · rw [if_neg h4]
                  exact hj22 _ ⟨hc, by omega, F20, fun k q1 q2 q3 q4 => k148 k q2 q3 q4, e5, e2', e149, e165, Or.inl ⟨rfl, fun k => by rw [e150]⟩⟩
          · intro j19 hj19
            rcases hc2 with ⟨k, p, a1, a2, a3, a4, a5⟩ | ⟨G, a1, a2, a3⟩
            · rw [a4, if_neg (by rw [eq0_ok (by omega)]; omega)]
              exact hj19 _ _ ⟨rfl, Or.inl ⟨k, p, a1, a2, a3, a4, a5, rfl⟩⟩
            · rw [a2, if_pos n0_0]
              exact hj19 _ _ ⟨rfl, Or.inr ⟨G, a1, a2, a3, rfl⟩⟩
        · intro j16 hj16
          rcases hcase with ⟨rfl, k, p, a1, a2, a3, a4, a5⟩ | ⟨rfl, j, l', G', ⟨b1, b2, b3, b4, b5⟩, b6⟩
          · rw [if_pos n0_0]
            exact hj16 _ ⟨hf, Or.inl ⟨k, p, Or.inl a1, a2, a3, a4, a5⟩⟩
          · rw [if_neg n1_0]
            have ej : j = L := by
              rcases hend with h1 | h1
              · exact absurd h1 (by decide +kernel)
              · rw [b3, eq_ok (by omega) (by omega)] at h1
                exact h1
            subst ej
            refine wp_call (finds_m hTt b2 b6 b5 (show 300 ≤ n by omega)) (fun _ t2 ⟨g1, g2, g3⟩ => ?_)
            rcases g3 with ⟨g3, g4⟩ | ⟨g3, p, g4, g5, g6⟩
            · exact hj16 _ ⟨hf.tr g1, Or.inr ⟨G', g4, g3, by rw [g2]; exact b5⟩⟩
            · exact hj16 _ ⟨hf.tr g1, Or.inl ⟨5, p, g5, by decide, by decide, g3, g6⟩⟩
      · intro j14 hj14
        rcases hcase with ⟨rfl, hF⟩ | ⟨rfl, j, l', G', hRM, b6⟩
        · rw [if_pos n0_0]
          exact hj14 _ ⟨rfl, Or.inl rfl⟩
        · obtain ⟨b1, b2, b3, b4, b5⟩ := id hRM
          rw [if_neg n1_0, hTt.2.1, b3, ile (by omega) (by omega)]
          by_cases hLj : L ≤ j
          · rw [if_pos hLj]
            refine hj14 _ ⟨rfl, Or.inr ?_⟩
            rw [b3]
            congr 1
            omega
          · rw [if_neg hLj]
            refine wp_call (readsRule_m hTt hRM (Or.inl (by omega)) (show 200 ≤ n by omega)) (fun r2 t2 ⟨g1, g2⟩ => ?_)
            rw [lt_def]
            refine ih _ _ ⟨hf.tr g1, ?_⟩ ?_
            · rcases g2 with g2 | ⟨g2, j2, l2, G2, _, g4, g5⟩
              · exact Or.inl g2
              · exact Or.inr ⟨g2, j2, l2, G2, g4, g5⟩
            · have n10 : ¬ nI 1 = nI 0 := by decide +kernel
              rcases g2 with ⟨rfl, _⟩ | ⟨rfl, j2, l2, G2, g3, g4, g5⟩
              · rw [if_pos rfl, if_neg n10]
                omega
              · have := g4.1
                simp only [if_neg n10]
                rw [b3, g4.2.2.1, cl_ok (by omega), cl_ok (by omega)]
                omega
    · rcases hc1 with hc1 | ⟨hc1, j2, l2, G2, _, g4, g5⟩
      · exact Or.inl hc1
      · exact Or.inr ⟨hc1, j2, l2, G2, g4, g5⟩
    · by_cases e : r1 = nI 0
      · rw [if_pos e]; omega
      · rw [if_neg e]; omega
