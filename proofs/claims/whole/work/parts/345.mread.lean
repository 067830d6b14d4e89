/-! ===== the reference: reading a text ===== -/
def TM (L : Nat) (tx : Nat → Nat) (s : PH) : Prop := L ≤ 100 ∧ s.1 148 4 = nI L ∧ ∀ i, i < L → s.1 151 i = nI (tx i) ∧ 33 ≤ tx i ∧ tx i ≤ 126
theorem TX.tm {L : Nat} {tx : Nat → Nat} {s : PH} (h : TX L tx s) : TM L tx s := ⟨h.1, h.2.2.1, fun i hi => (h.2.2.2 i hi).2⟩
def isRm (q : Nat) : Prop := q = 148 ∨ q = 165
/-- nothing but spot, wrong and what is read has changed -/
def FrR (s t : PH) : Prop := Fr isRm s t ∧ ∀ k, k ≠ 21 → k ≠ 22 → t.1 148 k = s.1 148 k
theorem FrR.rf {s : PH} : FrR s s := ⟨Fr.rf, fun _ _ _ => rfl⟩
theorem FrR.tr {a b c : PH} (h1 : FrR a b) (h2 : FrR b c) : FrR a c := ⟨h1.1.tr h2.1, fun k k1 k2 => (h2.2 k k1 k2).trans (h1.2 k k1 k2)⟩
theorem FrR.s21 {s : PH} {v : Int32} : FrR s (si s 148 21 v) := ⟨Fr.si (Or.inl rfl), fun k k1 _ => by simp [si_1, k1]⟩
theorem FrR.s22 {s : PH} {v : Int32} : FrR s (si s 148 22 v) := ⟨Fr.si (Or.inl rfl), fun k _ k2 => by simp [si_1, k2]⟩
theorem FrR.s165 {s : PH} {k : Nat} {v : Int32} : FrR s (si s 165 k v) := ⟨Fr.si (Or.inr rfl), fun k _ _ => by rw [si_r _ _ _ _ (by decide)]⟩
theorem TM.fr {L : Nat} {tx : Nat → Nat} {s t : PH} (h : TM L tx s) (hf : FrR s t) : TM L tx t := by
  unfold TM
  rw [hf.2 4 (by decide) (by decide), (hf.1 151 (by unfold isRm; omega)).1]
  exact h
theorem isAt_m {L : Nat} {tx : Nat → Nat} {s : PH} (h : TM L tx s) {i lo hi : Nat} (h21 : s.1 148 21 = nI i) (hi' : i ≤ L) (hlo : lo < 200) (hhi : hi < 200) : fX12_isAt (nI lo) (nI hi) s = some (bI (decide (i < L ∧ lo ≤ tx i ∧ tx i ≤ hi)), s) := by
  obtain ⟨hL, h4, hx⟩ := h
  unfold fX12_isAt
  rw [h4, h21, ile (by omega) (by omega)]
  by_cases hle : L ≤ i
  · rw [if_pos hle, decide_eq_false (by omega)]; rfl
  · obtain ⟨x1, x2, x3⟩ := hx i (by omega)
    rw [if_neg hle, ra_ok _ _ (by omega) (by decide), x1, in_e, bd_ok]
    simp (disch := omega) only [le_ok]
    by_cases hc : lo ≤ tx i ∧ tx i ≤ hi
    · rw [if_pos hc, if_neg n1_0, decide_eq_true ⟨by omega, hc.1, hc.2⟩]; rfl
    · rw [if_neg hc, if_pos n0_0, decide_eq_false (by omega)]; rfl
theorem takes_m {L : Nat} {tx : Nat → Nat} {s : PH} (h : TM L tx s) {i c : Nat} (h21 : s.1 148 21 = nI i) (h22 : s.1 148 22 = nI 0) (hi : i ≤ L) (hc : c < 200) : ∃ r t, fX12_takes (nI c) s = some (r, t) ∧ FrR s t ∧ t.1 165 = s.1 165 ∧ ((i < L ∧ tx i = c ∧ r = nI 1 ∧ t.1 148 21 = nI (i + 1) ∧ t.1 148 22 = nI 0) ∨ (¬ (i < L ∧ tx i = c) ∧ r = nI 0 ∧ t.1 148 21 = nI i ∧ t.1 148 22 = nI 1)) := by
  unfold fX12_takes
  rw [isAt_m h h21 hi hc hc, bd_ok, lt_def]
  by_cases hb : i < L ∧ tx i = c
  · rw [decide_eq_true (by omega), bI_t]
    simp only [jn_def, lt_def, if_neg n1_0, h21, nI_add]
    have e22 : (si s 148 21 (nI (i + 1))).1 148 22 = nI 0 := by simp [si_1, h22]
    rw [e22, rz1]
    refine ⟨_, _, rfl, FrR.s21.tr FrR.s22, ?_, Or.inl ⟨hb.1, hb.2, rfl, ?_, ?_⟩⟩
    · rw [si_r _ _ _ _ (by decide), si_r _ _ _ _ (by decide)]
    · simp [si_1]
    · simp [si_1]
  · rw [decide_eq_false (by omega), bI_f]
    simp only [jn_def, lt_def, if_pos n0_0, h21, nI_add]
    rw [rz0]
    refine ⟨_, _, rfl, FrR.s21.tr FrR.s22, ?_, Or.inr ⟨hb, rfl, ?_, ?_⟩⟩
    · rw [si_r _ _ _ _ (by decide), si_r _ _ _ _ (by decide)]
    · simp [si_1]
    · simp [si_1]
theorem MG.p {G : Gr} {f : Nat → Int32} {x : Nat} (h : MG G f) (h16 : G.1 < 16) : MG (addP G x) (fun b => if b = 0 then nI (G.1 + 1) else if b = 17 + G.1 then nI 0 else if b = 1 + G.1 then nI x else f b) := by
  refine ⟨rfl, fun p hp => ?_⟩
  have hp' : p < G.1 + 1 := hp
  show (if 1 + p = 0 then _ else if 1 + p = 17 + G.1 then _ else if 1 + p = 1 + G.1 then nI x else f (1 + p)) = nI (if p = G.1 then x else G.2.1 p) ∧ (if 17 + p = 0 then _ else if 17 + p = 17 + G.1 then nI 0 else if 17 + p = 1 + G.1 then nI x else f (17 + p)) = nI (if p = G.1 then 0 else G.2.2.1 p) ∧ ∀ i, i < (if p = G.1 then 0 else G.2.2.1 p) → (if 33 + (5 * p + i) = 0 then _ else if 33 + (5 * p + i) = 17 + G.1 then _ else if 33 + (5 * p + i) = 1 + G.1 then nI x else f (33 + (5 * p + i))) = nI (G.2.2.2 p i)
  by_cases e : p = G.1
  · refine ⟨?_, ?_, fun i hi => ?_⟩
    · rw [if_neg (by omega), if_neg (by omega), if_pos (by omega), if_pos e]
    · rw [if_neg (by omega), if_pos (by omega), if_pos e]
    · rw [if_pos e] at hi; omega
  · obtain ⟨a1, a2, a3⟩ := h.2 p (by omega)
    refine ⟨?_, ?_, fun i hi => ?_⟩
    · rw [if_neg (by omega), if_neg (by omega), if_neg (by omega), if_neg e]; exact a1
    · rw [if_neg (by omega), if_neg (by omega), if_neg (by omega), if_neg e]; exact a2
    · rw [if_neg e] at hi
      rw [if_neg (by omega), if_neg (by omega), if_neg (by omega)]; exact a3 i hi
theorem MG.sy {G : Gr} {f : Nat → Int32} {y : Nat} (h : MG G f) (h1 : 1 ≤ G.1 ∧ G.1 ≤ 16) (hlen : ∀ p, p < G.1 → G.2.2.1 p ≤ 5) : MG (addS G y) (fun b => if b = 17 + (G.1 - 1) then nI (G.2.2.1 (G.1 - 1) + 1) else if b = 33 + 5 * (G.1 - 1) + G.2.2.1 (G.1 - 1) then nI y else f b) := by
  refine ⟨?_, fun p hp => ?_⟩
  · show (if 0 = 17 + (G.1 - 1) then _ else if 0 = 33 + 5 * (G.1 - 1) + G.2.2.1 (G.1 - 1) then nI y else f 0) = nI G.1
    rw [if_neg (by omega), if_neg (by omega)]
    exact h.1
  · have hp' : p < G.1 := hp
    have hl := hlen p hp'
    have hl2 := hlen (G.1 - 1) (by omega)
    obtain ⟨a1, a2, a3⟩ := h.2 p hp'
    show (if 1 + p = 17 + (G.1 - 1) then _ else if 1 + p = 33 + 5 * (G.1 - 1) + G.2.2.1 (G.1 - 1) then nI y else f (1 + p)) = nI (G.2.1 p) ∧ (if 17 + p = 17 + (G.1 - 1) then _ else if 17 + p = 33 + 5 * (G.1 - 1) + G.2.2.1 (G.1 - 1) then nI y else f (17 + p)) = nI (if p = G.1 - 1 then G.2.2.1 p + 1 else G.2.2.1 p) ∧ ∀ i, i < (if p = G.1 - 1 then G.2.2.1 p + 1 else G.2.2.1 p) → (if 33 + (5 * p + i) = 17 + (G.1 - 1) then _ else if 33 + (5 * p + i) = 33 + 5 * (G.1 - 1) + G.2.2.1 (G.1 - 1) then nI y else f (33 + (5 * p + i))) = nI (if p = G.1 - 1 ∧ i = G.2.2.1 p then y else G.2.2.2 p i)
    refine ⟨?_, ?_, fun i hi => ?_⟩
    · rw [if_neg (by omega), if_neg (by omega)]; exact a1
    · by_cases e : p = G.1 - 1
      · rw [if_pos (by omega), if_pos e, e]
      · rw [if_neg (by omega), if_neg (by omega), if_neg e]; exact a2
    · rw [if_neg (by omega)]
      by_cases e : p = G.1 - 1
      · rw [if_pos e] at hi
        subst e
        by_cases ei : i = G.2.2.1 (G.1 - 1)
        · rw [if_pos (by omega), if_pos ⟨rfl, ei⟩]
        · rw [if_neg (by omega), if_neg (fun h => ei h.2)]
          exact a3 i (by omega)
      · rw [if_neg e] at hi
        rw [if_neg (by omega), if_neg (fun h => e h.1)]
        exact a3 i hi
/-- a fault, as the reference holds it -/
def FM (tx : Nat → Nat) (L : Nat) (s : PH) : Prop := ∃ k p, FT1 tx L k p ∧ 1 ≤ k ∧ k ≤ 5 ∧ s.1 148 22 = nI k ∧ s.1 148 21 = nI p
/-- what has been read, as the reference holds it -/
def RM (tx : Nat → Nat) (L j m x : Nat) (G : Gr) (s : PH) : Prop := j ≤ L ∧ rnA tx j = .inl (m, x, G) ∧ s.1 148 21 = nI j ∧ s.1 148 22 = nI 0 ∧ MG G (s.1 165)
/-- a symbol stands here -/
def syb (tx : Nat → Nat) (L j : Nat) : Prop := j < L ∧ ((97 ≤ tx j ∧ tx j ≤ 101) ∨ (65 ≤ tx j ∧ tx j ≤ 70))
theorem readsSide_m {L : Nat} {tx : Nat → Nat} {s : PH} (h : TM L tx s) {i x : Nat} {G : Gr} (hr : rnA tx (i + 1) = opn x G i) (hi : i + 1 ≤ L) (h21 : s.1 148 21 = nI (i + 1)) (h22 : s.1 148 22 = nI 0) (hG : MG G (s.1 165)) (hx : x < 6) (h16 : G.1 ≤ 16) {n : Nat} (hn : 200 ≤ n) : wp (fX12_readsSide n (nI x) s) (fun r t => FrR s t ∧ ((r = nI 0 ∧ FM tx L t) ∨ (r = nI 1 ∧ ∃ j G', i + 1 ≤ j ∧ RM tx L j 2 x G' t ∧ ¬ syb tx L j))) := by
  have hL := h.1
  unfold fX12_readsSide
  rw [ra_ok _ _ (by decide) (by decide), hG.1, ieq (by omega) (by decide)]
  by_cases hc : G.1 = 16
  · rw [if_pos hc, lt_def]
    have e : rnA tx L = .inr (3, i + 1) := rnA_le (by rw [hr]; unfold opn; rw [if_pos hc]) hi
    exact wp_some ⟨FrR.s22, Or.inl ⟨rfl, 3, i + 1, Or.inl e, by decide, by decide, by simp [si_1], by simp [si_1, h21]⟩⟩
  · have hr2 : rnA tx (i + 1) = .inl (2, x, addP G x) := by rw [hr]; unfold opn; rw [if_neg hc]
    rw [if_neg hc, ra_ok _ _ (by decide) (by decide), hG.1, lt_def, nI_add, wa_ok _ (by omega) (by decide), cl_ok (by omega), lt_def, nI_add, wa_ok _ (by omega) (by decide), cl_ok (by omega), lt_def]
    have e0 : (si (si s 165 (1 + G.1) (nI x)) 165 (17 + G.1) (nI 0)).1 165 0 = nI G.1 := by
      rw [si_1, if_neg (by omega), si_1, if_neg (by omega)]
      exact hG.1
    rw [ra_ok _ _ (by decide) (by decide), e0, nI_add, wa_ok _ (by decide) (by decide), cl_ok (by decide), lt_def]
    obtain ⟨s7, hs7⟩ : ∃ s7, s7 = si (si (si s 165 (1 + G.1) (nI x)) 165 (17 + G.1) (nI 0)) 165 0 (nI (G.1 + 1)) := ⟨_, rfl⟩
    rw [← hs7]
    have f7 : FrR s s7 := by rw [hs7]; exact (FrR.s165.tr FrR.s165).tr FrR.s165
    have e148 : s7.1 148 = s.1 148 := by rw [hs7, si_r _ _ _ _ (by decide), si_r _ _ _ _ (by decide), si_r _ _ _ _ (by decide)]
    have hG7 : MG (addP G x) (s7.1 165) := by
      rw [hs7, si_q, si_q, si_q]
      exact hG.p (by omega)
    obtain ⟨P, hP⟩ : ∃ P, P = G.1 := ⟨_, rfl⟩
    rw [← hP]
    refine wp_loo1 (fun t => ∃ j G', i + 1 ≤ j ∧ G'.1 = P + 1 ∧ FrR s t ∧ RM tx L j 2 x G' t) (fun t => L - (t.1 148 21).toNatClampNeg) ?_ n s7 ⟨i + 1, addP G x, Nat.le_refl _, by rw [hP]; rfl, f7, hi, hr2, by rw [e148]; exact h21, by rw [e148]; exact h22, hG7⟩ (by rw [e148, h21, cl_ok (by omega)]; omega)
    rintro rec t ⟨j, G', hij, hG1, hf, hj, hrj, t21, t22, hMG⟩ ih
    have hTt := h.fr hf
    obtain ⟨p1, p2, p3, p4, p5, p6, p7, p8⟩ := PW.all j hrj
    have hsz := (hMG.2 P (by omega)).2.1
    have hl5 := (p2 P (by omega)).2
    rw [isAt_m hTt t21 hj (by decide) (by decide), bd_ok]
    refine wp_jn1 (fun t' => t' = t ∧ syb tx L j) ?_ ?_
    · rintro t' ⟨rfl, hs⟩
      obtain ⟨y, hy⟩ : ∃ y, y = if 97 ≤ tx j ∧ tx j ≤ 101 then tx j - 97 else 10 + (tx j - 65) := ⟨_, rfl⟩
      have hstp : rnA tx (j + 1) = apn x G' y j := by
        rw [rnA_s hrj, stp2]
        have hs2 := hs.2
        by_cases hl : 97 ≤ tx j ∧ tx j ≤ 101
        · rw [if_neg (by omega), if_neg (by omega), if_neg (by omega), if_pos (by omega), hy, if_pos hl]
        · rw [if_neg (by omega), if_neg (by omega), if_pos (by omega), hy, if_neg hl]
      have hjL := hs.1
      have eP : G'.1 - 1 = P := by omega
      rw [ra_ok _ _ (by omega) (by decide), hsz, ieq (by omega) (by decide)]
      by_cases h5 : G'.2.2.1 P = 5
      · rw [if_pos h5, lt_def]
        have e : rnA tx L = .inr (4, j) := rnA_le (i := j + 1) (by rw [hstp]; unfold apn; rw [eP, if_pos h5]) (by omega)
        exact wp_some ⟨hf.tr FrR.s22, Or.inl ⟨rfl, 4, j, Or.inl e, by decide, by decide, by simp [si_1], by simp [si_1, t21]⟩⟩
      · rw [if_neg h5, ra_ok _ _ (by omega) (by decide), hsz, isAt_m hTt t21 hj (by decide) (by decide), bd_ok]
        obtain ⟨x1, x2, x3⟩ := hTt.2.2 j hjL
        refine wp_jn2 (fun v18 t2 => t2 = t' ∧ v18 = nI y) ?_ ?_
        · rintro v18 t2 ⟨rfl, rfl⟩
          have ei : (nI 33 + nI 5 * nI P) + nI (G'.2.2.1 P) = nI (33 + 5 * P + G'.2.2.1 P) := by rw [nI_mulN, nI_add, nI_add]
          rw [ei, wa_ok _ (by omega) (by decide), cl_ok (by omega), lt_def]
          have e17 : (si t2 165 (33 + 5 * P + G'.2.2.1 P) (nI y)).1 165 (17 + P) = nI (G'.2.2.1 P) := by
            rw [si_1, if_neg (by omega)]
            exact hsz
          rw [ra_ok _ _ (by omega) (by decide), e17, nI_add, wa_ok _ (by omega) (by decide), lt_def, lt_def]
          have e21 : (si (si t2 165 (33 + 5 * P + G'.2.2.1 P) (nI y)) 165 (17 + P) (nI (G'.2.2.1 P + 1))).1 148 21 = nI j := by
            rw [si_r _ _ _ _ (by decide), si_r _ _ _ _ (by decide)]
            exact t21
          rw [e21, nI_add]
          have hnx : rnA tx (j + 1) = .inl (2, x, addS G' y) := by rw [hstp]; unfold apn; rw [eP, if_neg h5]
          refine ih _ ⟨j + 1, addS G' y, by omega, hG1, ((hf.tr FrR.s165).tr FrR.s165).tr FrR.s21, by omega, hnx, ?_, ?_, ?_⟩ ?_
          · simp [si_1]
          · simp [si_1, t22]
          · rw [si_r _ _ _ _ (by decide), si_q, si_q]
            have := hMG.sy (y := y) ⟨by omega, p1⟩ (fun p hp => (p2 p hp).2)
            rw [eP] at this
            exact this
          · have : (si (si (si t2 165 (33 + 5 * P + G'.2.2.1 P) (nI y)) 165 (17 + P) (nI (G'.2.2.1 P + 1))) 148 21 (nI (j + 1))).1 148 21 = nI (j + 1) := by simp [si_1]
            rw [this, t21, cl_ok (by omega), cl_ok (by omega)]
            omega
        · intro j20 hj20
          have hs2 := hs.2
          by_cases hl : 97 ≤ tx j ∧ tx j ≤ 101
          · rw [decide_eq_true ⟨hjL, hl⟩, bI_t, if_neg n1_0, t21, ra_ok _ _ (by omega) (by decide), x1, nI_subN hl.1]
            exact hj20 _ _ ⟨rfl, by rw [hy, if_pos hl]⟩
          · rw [decide_eq_false (fun h => hl h.2), bI_f, if_pos n0_0, t21, ra_ok _ _ (by omega) (by decide), x1, nI_add, nI_subN (by omega)]
            refine hj20 _ _ ⟨rfl, ?_⟩
            rw [hy, if_neg hl]
            congr 1
            omega
    · intro j13 hj13
      by_cases hl : j < L ∧ 97 ≤ tx j ∧ tx j ≤ 101
      · rw [decide_eq_true hl, bI_t, if_neg n1_0]
        exact hj13 _ ⟨rfl, hl.1, Or.inl hl.2⟩
      · rw [decide_eq_false hl, bI_f, if_pos n0_0, isAt_m hTt t21 hj (by decide) (by decide), bd_ok]
        by_cases hu : j < L ∧ 65 ≤ tx j ∧ tx j ≤ 70
        · rw [decide_eq_true hu, bI_t, if_neg n1_0]
          exact hj13 _ ⟨rfl, hu.1, Or.inr hu.2⟩
        · rw [decide_eq_false hu, bI_f, if_pos n0_0]
          exact wp_some ⟨hf, Or.inr ⟨rfl, j, G', hij, ⟨hj, hrj, t21, t22, hMG⟩, fun hs => hs.2.elim (fun h => hl ⟨hs.1, h⟩) (fun h => hu ⟨hs.1, h⟩)⟩⟩
theorem readsRule_m {L : Nat} {tx : Nat → Nat} {s : PH} (h : TM L tx s) {i l : Nat} {G : Gr} (hR : RM tx L i 0 l G s) (hend : i < L ∨ G.1 = 0) {n : Nat} (hn : 200 ≤ n) : wp (fX12_readsRule n s) (fun r t => FrR s t ∧ ((r = nI 0 ∧ FM tx L t) ∨ (r = nI 1 ∧ ∃ j l' G', i < j ∧ RM tx L j 0 l' G' t ∧ G'.1 ≠ 0))) := by
  have hL := h.1
  obtain ⟨hi, hri, h21, h22, hG⟩ := hR
  obtain ⟨p1, p2, p3, p4, p5, p6, p7, p8⟩ := PW.all i hri
  unfold fX12_readsRule
  rw [isAt_m h h21 hi (by decide) (by decide), bd_ok]
  by_cases hu : i < L ∧ 65 ≤ tx i ∧ tx i ≤ 70
  · obtain ⟨hiL, hu1, hu2⟩ := hu
    obtain ⟨x1, x2, x3⟩ := h.2.2 i hiL
    rw [decide_eq_true ⟨hiL, hu1, hu2⟩, bI_t, if_neg n1_0, h21, ra_ok _ _ (by omega) (by decide), x1, nI_subN hu1, lt_def, lt_def]
    obtain ⟨x, hx⟩ : ∃ x, x = tx i - 65 := ⟨_, rfl⟩
    have hx6 : x < 6 := by omega
    rw [← hx]
    refine wp_for2 G.1 (by omega) (fun p t => FrR s t ∧ t.1 148 21 = nI i ∧ t.1 165 = s.1 165 ∧ ((t.1 148 22 = nI 0 ∧ ∀ q, q < p → G.2.1 q ≠ x) ∨ (t.1 148 22 = nI 2 ∧ ∃ q, q < p ∧ G.2.1 q = x))) ?_ ?_ n 0 s (Nat.zero_le _) ⟨FrR.rf, h21, rfl, Or.inl ⟨h22, fun q hq => absurd hq (Nat.not_lt_zero q)⟩⟩ (by omega)
    · rintro rec p t hp ⟨hf, t21, t165, hcase⟩ ih
      have hl6 := (p2 p hp).1
      rw [ra_ok _ _ (by decide) (by decide), t165, hG.1, if_neg (by rw [le_ok (by omega) (by omega)]; omega), nI_add, ra_ok _ _ (by omega) (by decide), (hG.2 p hp).1]
      simp only [jn_def, lt_def]
      rw [ieq (by omega) (by omega)]
      by_cases e : G.2.1 p = x
      · rw [if_pos e, nI_add]
        refine ih _ ⟨hf.tr FrR.s22, by simp [si_1, t21], by rw [si_r _ _ _ _ (by decide)]; exact t165, Or.inr ⟨by simp [si_1], p, by omega, e⟩⟩
      · rw [if_neg e, nI_add]
        refine ih _ ⟨hf.tr FrR.s22, by simp [si_1, t21], by rw [si_r _ _ _ _ (by decide)]; exact t165, ?_⟩
        rcases hcase with ⟨a, b⟩ | ⟨a, q, b, c⟩
        · refine Or.inl ⟨by simp [si_1, a], fun q hq => ?_⟩
          by_cases eq : q = p
          · rw [eq]; exact e
          · exact b q (by omega)
        · exact Or.inr ⟨by simp [si_1, a], q, by omega, c⟩
    · rintro rec t ⟨hf, t21, t165, hcase⟩
      rw [ra_ok _ _ (by decide) (by decide), t165, hG.1, if_pos (by rw [le_ok (by omega) (by omega)]; exact Nat.le_refl _)]
      rcases hcase with ⟨a, b⟩ | ⟨a, q, b, c⟩
      · have hd : dfb G x = false := by
          cases hb : dfb G x with
          | false => rfl
          | true =>
            obtain ⟨p, hp, e⟩ := dfb_iff.mp hb
            exact absurd e (b p hp)
        have hr1 : rnA tx (i + 1) = .inl (1, x, G) := by
          rw [rnA_s hri, stp0, if_pos (by omega), ← hx, if_neg (by rw [hd]; decide)]
        rw [a, ilez (by decide), if_pos (by decide), lt_def, t21, nI_add]
        have f1 : FrR s (si t 148 21 (nI (i + 1))) := hf.tr FrR.s21
        obtain ⟨r, t2, e2, f2, e165, hc2⟩ := takes_m (h.fr f1) (i := i + 1) (c := 61) (by simp [si_1]) (by simp [si_1, a]) (by omega) (by decide)
        rw [e2, bd_ok]
        have F2 : FrR s t2 := f1.tr f2
        have e165' : t2.1 165 = s.1 165 := by rw [e165, si_r _ _ _ _ (by decide)]; exact t165
        rcases hc2 with ⟨c1, c2, rfl, c4, c5⟩ | ⟨c1, rfl, c4, c5⟩
        · rw [if_neg n1_0]
          have hr2 : rnA tx (i + 1 + 1) = opn x G (i + 1) := by rw [rnA_s hr1, stp1, if_pos c2]
          refine wp_call (readsSide_m (h.fr F2) hr2 (by omega) c4 c5 (by rw [e165']; exact hG) hx6 p1 hn) (fun r3 t3 ⟨f3, hc3⟩ => ?_)
          rcases hc3 with ⟨rfl, hF⟩ | ⟨rfl, j, G', hj, hRM, hns⟩
          · rw [if_pos n0_0]
            exact wp_some ⟨F2.tr f3, Or.inl ⟨rfl, hF⟩⟩
          · rw [if_neg n1_0]
            refine wp_loo1 (fun t => ∃ j G', i + 1 < j ∧ FrR s t ∧ RM tx L j 2 x G' t ∧ ¬ syb tx L j) (fun t => L - (t.1 148 21).toNatClampNeg) ?_ n t3 ⟨j, G', by omega, F2.tr f3, hRM, hns⟩ (by omega)
            rintro rec2 t4 ⟨j, G', hij, hf4, ⟨hjL, hrj, u21, u22, hMG⟩, hns⟩ ih
            have hT4 := h.fr hf4
            obtain ⟨q1, q2, q3, q4, q5, q6, q7, q8⟩ := PW.all j hrj
            rw [isAt_m hT4 u21 hjL (by decide) (by decide), bd_ok]
            by_cases hbar : j < L ∧ 124 ≤ tx j ∧ tx j ≤ 124
            · rw [decide_eq_true hbar, bI_t, if_neg n1_0, lt_def, u21, nI_add]
              have hr5 : rnA tx (j + 1) = opn x G' j := by rw [rnA_s hrj, stp2, if_pos (by omega)]
              have f5 : FrR s (si t4 148 21 (nI (j + 1))) := hf4.tr FrR.s21
              refine wp_call (readsSide_m (h.fr f5) hr5 (by omega) (by simp [si_1]) (by simp [si_1, u22]) (by rw [si_r _ _ _ _ (by decide)]; exact hMG) hx6 q1 hn) (fun r6 t6 ⟨f6, hc6⟩ => ?_)
              rcases hc6 with ⟨rfl, hF⟩ | ⟨rfl, j2, G2, hj2, hRM2, hns2⟩
              · rw [if_pos n0_0]
                exact wp_some ⟨f5.tr f6, Or.inl ⟨rfl, hF⟩⟩
              · rw [if_neg n1_0]
                refine ih _ ⟨j2, G2, by omega, f5.tr f6, hRM2, hns2⟩ ?_
                have := hRM2.1
                rw [hRM2.2.2.1, u21, cl_ok (by omega), cl_ok (by omega)]
                omega
            · rw [decide_eq_false hbar, bI_f, if_pos n0_0]
              obtain ⟨r7, t7, e7, f7, e1657, hc7⟩ := takes_m hT4 (i := j) (c := 59) u21 u22 hjL (by decide)
              rw [e7, bd_ok]
              rcases hc7 with ⟨d1, d2, rfl, d4, d5⟩ | ⟨d1, rfl, d4, d5⟩
              · rw [rz1]
                have hr8 : rnA tx (j + 1) = .inl (0, x, G') := by rw [rnA_s hrj, stp2, if_neg (by omega), if_pos d2]
                refine wp_some ⟨hf4.tr f7, Or.inr ⟨rfl, j + 1, x, G', by omega, ⟨by omega, hr8, d4, d5, by rw [e1657]; exact hMG⟩, ?_⟩⟩
                have := (q8 rfl).1
                omega
              · rw [rz0]
                refine wp_some ⟨hf4.tr f7, Or.inl ⟨rfl, 1, j, ?_, by decide, by decide, d5, d4⟩⟩
                by_cases hjl : j < L
                · refine Or.inl (rnA_le (i := j + 1) ?_ (by omega))
                  have hn1 : ¬ (97 ≤ tx j ∧ tx j ≤ 101) := fun hh => hns ⟨hjl, Or.inl hh⟩
                  have hn2 : ¬ (65 ≤ tx j ∧ tx j ≤ 70) := fun hh => hns ⟨hjl, Or.inr hh⟩
                  rw [rnA_s hrj, stp2, if_neg (by omega), if_neg (fun hh => d1 ⟨hjl, hh⟩), if_neg (by omega), if_neg (by omega)]
                · have ej : j = L := by omega
                  rw [ej] at hrj
                  exact Or.inr ⟨rfl, ej, 2, x, G', hrj, Or.inl (by decide)⟩
        · rw [if_pos n0_0]
          refine wp_some ⟨F2, Or.inl ⟨rfl, 1, i + 1, ?_, by decide, by decide, c5, c4⟩⟩
          by_cases hil : i + 1 < L
          · refine Or.inl (rnA_le (i := i + 1 + 1) ?_ (by omega))
            rw [rnA_s hr1, stp1, if_neg (fun hh => c1 ⟨hil, hh⟩)]
          · have ej : i + 1 = L := by omega
            rw [ej] at hr1
            exact Or.inr ⟨rfl, ej, 1, x, G, hr1, Or.inl (by decide)⟩
      · rw [a, ilez (by decide), if_neg (by decide)]
        have hd : dfb G x = true := dfb_iff.mpr ⟨q, b, c⟩
        refine wp_some ⟨hf, Or.inl ⟨rfl, 2, i, Or.inl (rnA_le (i := i + 1) ?_ (by omega)), by decide, by decide, a, t21⟩⟩
        rw [rnA_s hri, stp0, if_pos (by omega), ← hx, if_pos hd]
  · rw [decide_eq_false hu, bI_f, if_pos n0_0, lt_def]
    refine wp_some ⟨FrR.s22, Or.inl ⟨rfl, 1, i, ?_, by decide, by decide, by simp [si_1], by simp [si_1, h21]⟩⟩
    by_cases hil : i < L
    · refine Or.inl (rnA_le (i := i + 1) ?_ (by omega))
      rw [rnA_s hri, stp0, if_neg (by omega)]
    · have ej : i = L := by omega
      rw [ej] at hri
      refine Or.inr ⟨rfl, ej, 0, l, G, hri, Or.inr ?_⟩
      rcases hend with hh | hh
      · omega
      · exact hh
