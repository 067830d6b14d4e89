/-! ===== BOTH: what is held between calls ===== -/
theorem XG.fr {G : Gr} {P : Nat → Prop} {s t : PH} (h : XG G s) (w : WG G) (hf : Fr P s t) (hP : ∀ q, (q = 0 ∨ (7 ≤ q ∧ q ≤ 12) ∨ q = 19 ∨ q = 20 ∨ (30 ≤ q ∧ q < 138)) → ¬ P q) : XG G t := by
  obtain ⟨h1, h2, h3, h4⟩ := h
  have e : t.2.2 0 8 = s.2.2 0 8 := by rw [(hf 0 (hP 0 (Or.inl rfl))).2.2]
  refine ⟨by rw [e]; exact h1, by rw [e]; exact h2.fr hf (fun k hk => hP _ (by unfold gId; omega)), h3.fr hf (fun q hq => hP q (by unfold isT at hq; omega)), h4.fr w hf (fun q a b => hP q (by omega)) (hP 19 (by omega)) (hP 20 (by omega))⟩
theorem MLd.fr {G : Gr} {P : Nat → Prop} {s t : PH} (h : MLd G s) (hf : Fr P s t) (hP : ∀ q, (q = 149 ∨ (153 ≤ q ∧ q ≤ 164)) → ¬ P q) : MLd G t := by
  unfold MLd
  rw [(hf 149 (hP 149 (by omega))).1, (hf 153 (hP 153 (by omega))).1, (hf 154 (hP 154 (by omega))).1, (hf 155 (hP 155 (by omega))).1, (hf 156 (hP 156 (by omega))).1, (hf 157 (hP 157 (by omega))).1, (hf 158 (hP 158 (by omega))).1, (hf 159 (hP 159 (by omega))).1, (hf 160 (hP 160 (by omega))).1, (hf 163 (hP 163 (by omega))).1, (hf 164 (hP 164 (by omega))).1]
  exact h
/-- the text -/
def TX (L : Nat) (tx : Nat → Nat) (s : PH) : Prop := L ≤ 100 ∧ s.1 1 1 = nI L ∧ s.1 148 4 = nI L ∧ ∀ i, i < L → s.1 2 i = nI (tx i) ∧ s.1 151 i = nI (tx i) ∧ 33 ≤ tx i ∧ tx i ≤ 126
theorem TX.fr {L : Nat} {tx : Nat → Nat} {P : Nat → Prop} {s t : PH} (h : TX L tx s) (hf : Fr P s t) (h1 : ¬ P 1) (h2 : ¬ P 2) (h3 : ¬ P 151) (h4 : t.1 148 4 = s.1 148 4) : TX L tx t := by
  unfold TX
  rw [(hf 1 h1).1, (hf 2 h2).1, (hf 151 h3).1, h4]
  exact h
/-- what parse() chose -/
def CHs (s : PH) : Prop := ∃ c, c ≤ 60 ∧ s.1 21 3 = nI c ∧ s.1 148 7 = nI c ∧ ∀ i, i < c → s.1 23 i = s.1 152 i
theorem CHs.fr {P : Nat → Prop} {s t : PH} (h : CHs s) (hf : Fr P s t) (h1 : ¬ P 21) (h2 : ¬ P 23) (h3 : ¬ P 152) (h4 : t.1 148 7 = s.1 148 7) : CHs t := by
  unfold CHs
  rw [(hf 21 h1).1, (hf 23 h2).1, (hf 152 h3).1, h4]
  exact h
/-- the remembered grammars -/
def HS (s : PH) : Prop := ∃ h, h ≤ 4 ∧ s.1 5 1 = nI h ∧ s.1 148 2 = nI h ∧ ∀ i, i < h → ∃ G, WG G ∧ CG G (s.2.2 6 i) s ∧ MG G (fun k => s.1 150 (113 * i + k))
/-- which grammar lies where -/
def IDS (s : PH) : Prop := s.2.2 0 8 < 6 ∧ s.2.2 3 1 < 6 ∧ (∀ i, i < 4 → s.2.2 6 i < 6) ∧ s.2.2 0 8 ≠ s.2.2 3 1 ∧ (∀ i, i < 4 → s.2.2 6 i ≠ s.2.2 0 8 ∧ s.2.2 6 i ≠ s.2.2 3 1) ∧ ∀ i j, i < 4 → j < 4 → i ≠ j → s.2.2 6 i ≠ s.2.2 6 j
theorem IDS.fr {P : Nat → Prop} {s t : PH} (h : IDS s) (hf : Fr P s t) (h1 : ¬ P 0) (h2 : ¬ P 3) (h3 : ¬ P 6) : IDS t := by
  unfold IDS
  rw [(hf 0 h1).2.2, (hf 3 h2).2.2, (hf 6 h3).2.2]
  exact h
theorem HS.fr {P : Nat → Prop} {s t : PH} (h : HS s) (hI : IDS s) (hf : Fr P s t) (h1 : ¬ P 5) (h2 : ¬ P 6) (h3 : ¬ P 150) (h4 : t.1 148 2 = s.1 148 2) (h5 : ∀ q, 30 ≤ q → q < 66 → ¬ P q) : HS t := by
  obtain ⟨m, hm, a1, a2, a3⟩ := h
  refine ⟨m, hm, by rw [(hf 5 h1).1]; exact a1, by rw [h4]; exact a2, fun i hi => ?_⟩
  obtain ⟨G, b1, b2, b3⟩ := a3 i hi
  have := hI.2.2.1 i (by omega)
  refine ⟨G, b1, ?_, ?_⟩
  · rw [(hf 6 h2).2.2]
    exact b2.fr hf (fun k hk => h5 _ (by unfold gId; omega) (by unfold gId; omega))
  · rw [(hf 150 h3).1]; exact b3
theorem MG.cg {G : Gr} (w : WG G) {f g : Nat → Int32} (h : MG G f) (e : ∀ k, k < 113 → g k = f k) : MG G g := by
  have h16 := w.1.2
  refine ⟨by rw [e 0 (by omega)]; exact h.1, fun p hp => ?_⟩
  have h5 := (w.2.1 p hp).2
  obtain ⟨h1, h2, h3⟩ := h.2 p hp
  exact ⟨by rw [e _ (by omega)]; exact h1, by rw [e _ (by omega)]; exact h2, fun i hi => by rw [e _ (by omega)]; exact h3 i hi⟩
def isTy (q : Nat) : Prop := q = 1 ∨ q = 2 ∨ q = 24 ∨ q = 148 ∨ q = 151
theorem type_b {L : Nat} {tx : Nat → Nat} {s : PH} (hT : TX L tx s) (a : Int32) : ∃ r s1 s2, fX11_type a s = some (r, s1) ∧ fX12_type a s1 = some (r, s2) ∧ (s2 = s ∨ ((∃ L' tx', TX L' tx' s2) ∧ Fr isTy s s2 ∧ (∀ k, k ≠ 4 → s2.1 148 k = s.1 148 k) ∧ s2.1 24 5 = nI 0 ∧ s2.1 24 6 = nI 0)) := by
  obtain ⟨hL, h1, h4, hx⟩ := hT
  by_cases c1 : a < nI 33
  · refine ⟨-1, s, s, by unfold fX11_type; rw [if_pos c1], ?_, Or.inl rfl⟩
    unfold fX12_type
    rw [in_e, if_neg (fun h => absurd c1 (Int32.not_lt.mpr h.1)), bd_ok, if_pos n0_0]
  · by_cases c2 : a ≤ nI 126
    · have h0 : 0 ≤ a := by
        have := Int32.le_iff_toInt_le.mp (Int32.not_lt.mp c1)
        rw [nI_toInt (by decide)] at this
        apply Int32.le_iff_toInt_le.mpr
        have e0 : (0 : Int32).toInt = 0 := by decide
        omega
      obtain ⟨c, hc, rfl⟩ : ∃ c, c ≤ 126 ∧ a = nI c := by
        rcases rge a 126 (by decide) with h | h
        · exact h
        · exact absurd ⟨h0, c2⟩ h
      have hc33 : 33 ≤ c := by
        rw [lt_ok (by omega) (by decide)] at c1
        omega
      by_cases c3 : L < 100
      · refine ⟨nI L + nI 1, si (si (si (si s 2 L (nI c)) 1 1 (nI L + nI 1)) 24 5 (nI 0)) 24 6 (nI 0), si (si (si (si (si (si s 2 L (nI c)) 1 1 (nI L + nI 1)) 24 5 (nI 0)) 24 6 (nI 0)) 151 L (nI c)) 148 4 (nI L + nI 1), ?_, ?_, Or.inr ⟨⟨L + 1, fun i => if i = L then c else tx i, by omega, ?_, ?_, fun i hi => ?_⟩, ?_, fun k hk => ?_, ?_, ?_⟩⟩
        · unfold fX11_type fX8_size fX8_append
          rw [if_neg c1, if_pos c2, bd_ok, h1, if_pos (by rw [lt_ok (by omega) (by decide)]; exact c3), if_neg (by rw [le_ok (by decide) (by omega)]; omega), wa_ok _ c3 (by decide), cl_ok (by omega)]
          simp only [lt_def, bd_ok, forget2_c]
          have e1 : (si s 2 L (nI c)).1 1 1 = nI L := by simp [si_1, h1]
          rw [e1]
          have e2 : (si (si (si (si s 2 L (nI c)) 1 1 (nI L + nI 1)) 24 5 (nI 0)) 24 6 (nI 0)).1 1 1 = nI L + nI 1 := by simp [si_1]
          rw [e2]
        · unfold fX12_type
          have e4 : (si (si (si (si s 2 L (nI c)) 1 1 (nI L + nI 1)) 24 5 (nI 0)) 24 6 (nI 0)).1 148 4 = nI L := by simp [si_1, h4]
          rw [in_e, if_pos ⟨Int32.not_lt.mp c1, c2⟩, bd_ok, if_neg n1_0, e4, if_neg (by rw [eq_ok (by omega) (by decide)]; omega), wa_ok _ c3 (by decide), cl_ok (by omega)]
          simp only [lt_def]
          have e5 : (si (si (si (si (si s 2 L (nI c)) 1 1 (nI L + nI 1)) 24 5 (nI 0)) 24 6 (nI 0)) 151 L (nI c)).1 148 4 = nI L := by simp [si_1, h4]
          rw [e5]
          have e6 : (si (si (si (si (si (si s 2 L (nI c)) 1 1 (nI L + nI 1)) 24 5 (nI 0)) 24 6 (nI 0)) 151 L (nI c)) 148 4 (nI L + nI 1)).1 148 4 = nI L + nI 1 := by simp [si_1]
          rw [e6]
        · simp [si_1, nI_add]
        · simp [si_1, nI_add]
        · by_cases e : i = L
          · subst e
            simp [si_1]
            omega
          · obtain ⟨a1, a2, a3, a4⟩ := hx i (by omega)
            simp [si_1, e, a1, a2, a3, a4]
        · intro q hq
          unfold isTy at hq
          have q1 : q ≠ 1 := by omega
          have q2 : q ≠ 2 := by omega
          have q3 : q ≠ 24 := by omega
          have q4 : q ≠ 148 := by omega
          have q5 : q ≠ 151 := by omega
          refine ⟨?_, rfl, rfl⟩
          rw [si_r _ _ _ _ q4, si_r _ _ _ _ q5, si_r _ _ _ _ q3, si_r _ _ _ _ q3, si_r _ _ _ _ q1, si_r _ _ _ _ q2]
        · simp [si_1, hk]
        · simp [si_1]
        · simp [si_1]
      · refine ⟨-3, s, s, ?_, ?_, Or.inl rfl⟩
        · unfold fX11_type fX8_size
          rw [if_neg c1, if_pos c2, bd_ok, h1, if_neg (by rw [lt_ok (by omega) (by decide)]; omega)]
        · unfold fX12_type
          rw [in_e, if_pos ⟨Int32.not_lt.mp c1, c2⟩, bd_ok, if_neg n1_0, h4, if_pos (by rw [eq_ok (by omega) (by decide)]; omega)]
    · refine ⟨-1, s, s, by unfold fX11_type; rw [if_neg c1, if_neg c2], ?_, Or.inl rfl⟩
      unfold fX12_type
      rw [in_e, if_neg (fun h => c2 h.2), bd_ok, if_pos n0_0]
theorem clear_b {L : Nat} {tx : Nat → Nat} {s : PH} (hT : TX L tx s) : ∃ r s1 s2, fX11_clear s = some (r, s1) ∧ fX12_clear s1 = some (r, s2) ∧ ((∃ L' tx', TX L' tx' s2) ∧ Fr isTy s s2 ∧ (∀ k, k ≠ 4 → s2.1 148 k = s.1 148 k) ∧ s2.1 24 5 = nI 0 ∧ s2.1 24 6 = nI 0) := by
  obtain ⟨hL, h1, h4, hx⟩ := hT
  refine ⟨nI L, si (si (si s 1 1 (nI 0)) 24 5 (nI 0)) 24 6 (nI 0), si (si (si (si s 1 1 (nI 0)) 24 5 (nI 0)) 24 6 (nI 0)) 148 4 (nI 0), ?_, ?_, ⟨0, tx, by omega, ?_, ?_, fun i hi => absurd hi (Nat.not_lt_zero i)⟩, ?_, fun k hk => ?_, ?_, ?_⟩
  · unfold fX11_clear fX8_size fX8_drop
    simp only [lt_def, bd_ok, forget2_c, h1]
  · unfold fX12_clear
    have e4 : (si (si (si s 1 1 (nI 0)) 24 5 (nI 0)) 24 6 (nI 0)).1 148 4 = s.1 148 4 := by simp [si_1]
    simp only [lt_def, e4, h4]
  · simp [si_1]
  · simp [si_1]
  · intro q hq
    unfold isTy at hq
    have q1 : q ≠ 1 := by omega
    have q3 : q ≠ 24 := by omega
    have q4 : q ≠ 148 := by omega
    refine ⟨?_, rfl, rfl⟩
    rw [si_r _ _ _ _ q4, si_r _ _ _ _ q3, si_r _ _ _ _ q3, si_r _ _ _ _ q1]
  · simp [si_1, hk]
  · simp [si_1]
  · simp [si_1]
theorem chosen_b {s : PH} (h : CHs s) (a : Int32) : ∃ r, fX11_chosen a s = some (r, s) ∧ fX12_chosen a s = some (r, s) := by
  obtain ⟨c, hc, h1, h2, h3⟩ := h
  unfold fX11_chosen fX12_chosen
  by_cases h0 : 0 ≤ a
  · rw [if_pos h0, if_pos h0]
    unfold fX6_count
    rw [bd_ok, h1, h2]
    by_cases hle : nI c ≤ a
    · rw [if_pos hle, if_pos hle]; exact ⟨_, rfl, rfl⟩
    · rw [if_neg hle, if_neg hle]
      obtain ⟨i, hi, rfl⟩ : ∃ i, i < c ∧ a = nI i := by
        rcases rge a 60 (by decide) with ⟨i, hi, rfl⟩ | h
        · rw [le_ok (by omega) (by omega)] at hle
          exact ⟨i, by omega, rfl⟩
        · rcases rge_cases h with h4 | ⟨_, h4⟩
          · exact absurd h4 (Int32.not_lt.mpr h0)
          · exact absurd (gt_ge (by decide) (by omega) h4 (by omega)) hle
      unfold fX6_choice
      rw [ra_ok _ _ (by omega) (by decide), ra_ok _ _ (by omega) (by decide), bd_ok, h3 i hi]
      exact ⟨_, rfl, rfl⟩
  · rw [if_neg h0, if_neg h0]; exact ⟨_, rfl, rfl⟩
theorem set_m {G : Gr} {s : PH} (hM : MLd G s) (w : WG G) {n : Nat} (hn : 30 ≤ n) : fX12_tell n (nI 2) s = some (nI (mk (dfb G)), s) := by
  unfold fX12_tell
  rw [if_neg (by decide +kernel), if_neg (by decide +kernel), if_pos rfl]
  simp only [lt_def]
  have key : wp (loo3 (fun (recrec13 : Int32 → Int32 → PH → Option (Int32 × PH)) (v10 : Int32) (v11 : Int32) (s12 : PH) =>
    (if (nI 6) ≤ v11 then (some (v10, s12)) else (bd (fX12_isDefined n v11 s12) fun (r15 : Int32) (s14 : PH) => (jn (fun (v16 : Int32) (s17 : PH) => recrec13 (v10 ||| v16) (v11 + (nI 1)) s17) (fun (j18 : Int32 → PH → Option (Int32 × PH)) => (if r15 = 0 then (j18 (nI 0) s14) else (j18 ((nI 1) <<< (v11 &&& 31)) s14))))))) n (nI 0) (nI 0) s) (fun r t => t = s ∧ r = nI (mk (dfb G))) := by
    refine wp_for3 6 (by omega) (fun x v t => t = s ∧ v = nI (mk (fun i => dfb G i && decide (i < x)))) ?_ ?_ n 0 _ s (by omega) ⟨rfl, ?_⟩ (by omega)
    · rintro rec x v t hx ⟨rfl, rfl⟩ ih
      simp (disch := omega) only [le_ok, if_neg, isDef_m hM w hx hn, bd_ok, jn_def, bI_0, nI_add]
      cases hd : dfb G x with
      | false =>
        rw [if_pos rfl, ← mk_no, mk_or]
        refine ih _ _ ⟨rfl, ?_⟩
        rw [mk_congr]
        intro i hi
        by_cases e : i = x
        · rw [e, hd]; rfl
        · have : decide (i < x) = decide (i < x + 1) := by rw [decide_eq_decide]; omega
          rw [this]; simp
      | true =>
        rw [if_neg (by decide), mk_set _ hx]
        refine ih _ _ ⟨rfl, ?_⟩
        rw [mk_congr]
        intro i hi
        by_cases e : i = x
        · rw [e, hd]; simp
        · have : decide (i < x) = decide (i < x + 1) := by rw [decide_eq_decide]; omega
          rw [this, decide_eq_false e]; simp
    · rintro rec v t ⟨rfl, rfl⟩
      simp (disch := omega) only [le_ok, if_pos]
      refine wp_some ⟨rfl, ?_⟩
      rw [mk_congr]
      intro i hi
      rw [decide_eq_true hi, Bool.and_true]
    · rw [← mk_no, mk_congr]
      intro i hi
      rw [decide_eq_false (Nat.not_lt_zero i), Bool.and_false]
  obtain ⟨r, t, e, rfl, rfl⟩ := key
  exact e
theorem told_b {G : Gr} {L : Nat} {tx : Nat → Nat} {s : PH} (hX : XG G s) (hK : GK G) (hM : MLd G s) (hT : TX L tx s) (hC : CHs s) (hH : HS s) {n : Nat} (hn : 30 ≤ n) (a : Int32) : ∃ r, fX11_told a s = some (r, s) ∧ fX12_tell n a s = some (r, s) := by
  have w := hK.1
  by_cases c2 : a = nI 2
  · subst c2
    refine ⟨_, ?_, set_m hM w hn⟩
    unfold fX11_told
    rw [if_neg (by decide +kernel), if_neg (by decide +kernel), if_pos rfl, lt_def, defined_c hX.2.1, bd_ok]
  · unfold fX11_told fX12_tell
    by_cases c0 : a = nI 0
    · rw [if_pos c0, if_pos c0, lt_def, count_c hX.2.1, many_e hM.1]; exact ⟨_, rfl, rfl⟩
    · rw [if_neg c0, if_neg c0]
      by_cases c1 : a = nI 1
      · rw [if_pos c1, if_pos c1, lt_def, start_c hX.2.1 w, start_e hM.1 w]; exact ⟨_, rfl, rfl⟩
      · rw [if_neg c1, if_neg c1, if_neg c2, if_neg c2]
        by_cases c3 : a = nI 3
        · rw [if_pos c3, if_pos c3]
          unfold fX8_size
          rw [bd_ok, hT.2.1, hT.2.2.1]; exact ⟨_, rfl, rfl⟩
        · rw [if_neg c3, if_neg c3]
          by_cases c4 : a = nI 4
          · rw [if_pos c4, if_pos c4]
            obtain ⟨h, _, h1, h2, _⟩ := hH
            unfold fX5_count
            rw [bd_ok, h1, h2]; exact ⟨_, rfl, rfl⟩
          · rw [if_neg c4, if_neg c4]
            by_cases c5 : a = nI 5
            · rw [if_pos c5, if_pos c5]
              obtain ⟨c, _, h1, h2, _⟩ := hC
              unfold fX6_count
              rw [bd_ok, h1, h2]; exact ⟨_, rfl, rfl⟩
            · rw [if_neg c5, if_neg c5]; exact ⟨_, rfl, rfl⟩
theorem q_told {G : Gr} {L : Nat} {tx : Nat → Nat} {s : PH} (hX : XG G s) (hK : GK G) (hM : MLd G s) (hT : TX L tx s) (hC : CHs s) (hH : HS s) {n : Nat} (hn : 30 ≤ n) (a : Int32) : ∃ r, fX11_told a s = some (r, s) ∧ fX12_told n a s = some (r, s) := by
  obtain ⟨r, e1, e2⟩ := told_b hX hK hM hT hC hH hn a
  refine ⟨r, e1, ?_⟩
  unfold fX12_told
  rw [e2, bd_ok]
