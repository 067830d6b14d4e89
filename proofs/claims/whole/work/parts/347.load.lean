/-! ===== BOTH: what holds between calls; load, undo ===== -/
def INV (s : PH) : Prop := ∃ G L tx, GK G ∧ XG G s ∧ MLd G s ∧ TX L tx s ∧ s.1 3 2 = s.1 148 5 ∧ CHs s ∧ HS s ∧ IDS s ∧ EN s ∧ DI G L tx s ∧ AM G s
theorem XG.fr2 {G : Gr} {P : Nat → Prop} {s t : PH} (h : XG G s) (w : WG G) (hf : Fr P s t) (h0 : t.2.2 0 8 = s.2.2 0 8) (hc : ∀ k, k < 6 → ¬ P (gId (s.2.2 0 8) k)) (hP : ∀ q, ((7 ≤ q ∧ q ≤ 12) ∨ q = 19 ∨ q = 20 ∨ (66 ≤ q ∧ q < 138)) → ¬ P q) : XG G t := by
  obtain ⟨h1, h2, h3, h4⟩ := h
  refine ⟨by rw [h0]; exact h1, by rw [h0]; exact h2.fr hf hc, h3.fr hf (fun q hq => hP q (by unfold isT at hq; omega)), h4.fr w hf (fun q a b => hP q (by omega)) (hP 19 (by omega)) (hP 20 (by omega))⟩
theorem HS.fr2 {P : Nat → Prop} {s t : PH} (h : HS s) (hf : Fr P s t) (h5 : t.1 5 1 = s.1 5 1) (h6 : t.2.2 6 = s.2.2 6) (h3 : ¬ P 150) (h4 : t.1 148 2 = s.1 148 2) (hc : ∀ i k, i < 4 → k < 6 → ¬ P (gId (s.2.2 6 i) k)) : HS t := by
  obtain ⟨m, hm, a1, a2, a3⟩ := h
  refine ⟨m, hm, by rw [h5]; exact a1, by rw [h4]; exact a2, fun i hi => ?_⟩
  obtain ⟨G, b1, b2, b3⟩ := a3 i hi
  refine ⟨G, b1, ?_, ?_⟩
  · rw [h6]
    exact b2.fr hf (fun k hk => hc i k (by omega) hk)
  · rw [(hf 150 h3).1]; exact b3
theorem remember_c {s : PH} {h a n : Nat} (hh : h ≤ 4) (h5 : s.1 5 1 = nI h) (hn : 20 ≤ n) : wp (fX5_remember n a s) (fun g t => Fr (fun q => q = 5 ∨ q = 6) s t ∧ ((h < 4 ∧ g = s.2.2 6 h ∧ t.1 5 1 = nI (h + 1) ∧ ∀ i, t.2.2 6 i = if i = h then a else s.2.2 6 i) ∨ (h = 4 ∧ g = s.2.2 6 0 ∧ t.1 5 1 = nI 4 ∧ ∀ i, i < 4 → t.2.2 6 i = if i = 3 then a else s.2.2 6 (i + 1)))) := by
  unfold fX5_remember
  rw [h5, ile (by decide) (by omega)]
  by_cases h4 : 4 ≤ h
  · have e4 : h = 4 := by omega
    subst e4
    rw [if_pos h4, ra_ok _ _ (by decide) (by decide), lt_def]
    refine wp_for2 4 (by omega) (fun j t => 1 ≤ j ∧ Fr (fun q => q = 5 ∨ q = 6) s t ∧ t.1 5 1 = nI 4 ∧ (∀ i, i + 1 < j → t.2.2 6 i = s.2.2 6 (i + 1)) ∧ ∀ i, j ≤ i + 1 → t.2.2 6 i = s.2.2 6 i) ?_ ?_ n 1 s (by decide) ⟨Nat.le_refl _, Fr.rf, h5, fun i hi => by omega, fun _ _ => rfl⟩ (by omega)
    · rintro rec j t hj ⟨hj1, hf, t5, b1, b2⟩ ih
      rw [if_neg (by rw [le_ok (by decide) (by omega)]; omega), ra_ok _ _ (by omega) (by decide), nI_subN hj1, wa_ok _ (by omega) (by decide), cl_ok (by omega), lt_def, lt_def, nI_add]
      refine ih _ ⟨by omega, hf.tr (Fr.sg (Or.inr rfl)), t5, fun i hi => ?_, fun i hi => ?_⟩
      · rw [sg_q]
        dsimp only
        by_cases e : i = j - 1
        · rw [if_pos e, b2 j (by omega), e, show j - 1 + 1 = j by omega]
        · rw [if_neg e]; exact b1 i (by omega)
      · rw [sg_q]
        dsimp only
        rw [if_neg (by omega)]
        exact b2 i (by omega)
    · rintro rec t ⟨_, hf, t5, b1, b2⟩
      rw [if_pos (by rw [le_ok (by decide) (by decide)]; exact Nat.le_refl _), wa_ok _ (by decide) (by decide), cl_ok (by decide), lt_def]
      refine wp_some ⟨hf.tr (Fr.sg (Or.inr rfl)), Or.inr ⟨rfl, rfl, t5, fun i hi => ?_⟩⟩
      rw [sg_q]
      dsimp only
      by_cases e : i = 3
      · rw [if_pos e, if_pos e]
      · rw [if_neg e, if_neg e]; exact b1 i (by omega)
  · rw [if_neg h4, ra_ok _ _ (by omega) (by decide), wa_ok _ (by omega) (by decide), cl_ok (by omega), lt_def, lt_def]
    have e5 : (sg s 6 h a).1 5 1 = nI h := h5
    rw [e5, nI_add]
    refine wp_some ⟨(Fr.sg (Or.inr rfl)).tr (Fr.si (Or.inl rfl)), Or.inl ⟨by omega, rfl, by simp [si_1], fun i => ?_⟩⟩
    rw [si_2, sg_q]
def isLc (g q : Nat) : Prop := q = 0 ∨ (3 ≤ q ∧ q ≤ 6) ∨ isG g q ∨ isS q
theorem load_c {G : Gr} {L h : Nat} {tx : Nat → Nat} {s : PH} (hX : XG G s) (hT : TX L tx s) (hI : IDS s) (hh : h ≤ 4) (h5 : s.1 5 1 = nI h) {n : Nat} (hn : 2000 ≤ n) : ∃ r s1, fX11_load n s = some (r, s1) ∧ ((∃ k p, OF tx L k p ∧ 1 ≤ k ∧ k ≤ 5 ∧ r = -10 - nI p ∧ s1.1 3 2 = nI k ∧ Fr (isRx (s.2.2 3 1)) s s1 ∧ s1.2.2 3 1 = s.2.2 3 1) ∨ ∃ G', OO tx L G' ∧ r = nI G'.1 ∧ s1.1 3 2 = -9 ∧ Fr (isLc (s.2.2 3 1)) s s1 ∧ XG G' s1 ∧ IDS s1 ∧ s1.1 24 5 = nI 0 ∧ s1.1 24 6 = nI 0 ∧ s1.1 29 1 = nI 0 ∧ ((h < 4 ∧ s1.1 5 1 = nI (h + 1) ∧ ∀ i, s1.2.2 6 i = if i = h then s.2.2 0 8 else s.2.2 6 i) ∨ (h = 4 ∧ s1.1 5 1 = nI 4 ∧ ∀ i, i < 4 → s1.2.2 6 i = if i = 3 then s.2.2 0 8 else s.2.2 6 (i + 1)))) := by
  obtain ⟨i1, i2, i3, i4, i5, i6⟩ := hI
  obtain ⟨g, hg⟩ : ∃ g, g = s.2.2 3 1 := ⟨_, rfl⟩
  obtain ⟨c, hc⟩ : ∃ c, c = s.2.2 0 8 := ⟨_, rfl⟩
  rw [← hg] at i2 i4 i5
  rw [← hc] at i1 i4 i5
  have key : wp (fX11_load n s) (fun r s1 => (∃ k p, OF tx L k p ∧ 1 ≤ k ∧ k ≤ 5 ∧ r = -10 - nI p ∧ s1.1 3 2 = nI k ∧ Fr (isRx g) s s1 ∧ s1.2.2 3 1 = g) ∨ ∃ G', OO tx L G' ∧ r = nI G'.1 ∧ s1.1 3 2 = -9 ∧ Fr (isLc g) s s1 ∧ XG G' s1 ∧ IDS s1 ∧ s1.1 24 5 = nI 0 ∧ s1.1 24 6 = nI 0 ∧ s1.1 29 1 = nI 0 ∧ ((h < 4 ∧ s1.1 5 1 = nI (h + 1) ∧ ∀ i, s1.2.2 6 i = if i = h then c else s.2.2 6 i) ∨ (h = 4 ∧ s1.1 5 1 = nI 4 ∧ ∀ i, i < 4 → s1.2.2 6 i = if i = 3 then c else s.2.2 6 (i + 1)))) := by
    unfold fX11_load
    refine wp_call (read_c hT hg.symm (show 200 ≤ n by omega)) (fun _ t1 ⟨f1, g1, hc1⟩ => ?_)
    unfold fX7_kind
    rw [bd_ok]
    rcases hc1 with ⟨k, p, a1, a2, a3, a4, a5⟩ | ⟨G', a1, a2, a3⟩
    · unfold fX7_position
      rw [a2, if_neg (neg_lt (by omega)), bd_ok, a5]
      exact wp_some (Or.inl ⟨k, p, a1, a3, a4, rfl, a2, f1, g1⟩)
    · have wg := a1.wg
      have e08 : t1.2.2 0 8 = c := by rw [(f1 0 (by unfold isRx isG; omega)).2.2]; exact hc.symm
      have e6 : t1.2.2 6 = s.2.2 6 := (f1 6 (by unfold isRx isG; omega)).2.2
      have e51 : t1.1 5 1 = nI h := by rw [(f1 5 (by unfold isRx isG; omega)).1]; exact h5
      rw [a2, if_pos rfl, lt_def, e08]
      refine wp_call (remember_c hh e51 (show 20 ≤ n by omega)) (fun g6 t2 ⟨f2, hc2⟩ => ?_)
      unfold fX7_exchange
      have g2 : t2.2.2 3 1 = g := by rw [(f2 3 (by omega)).2.2]; exact g1
      rw [lt_def, lt_def, bd_ok, g2, lt_def]
      obtain ⟨s9, hs9⟩ : ∃ s9, s9 = sg (sg t2 3 1 g6) 0 8 g := ⟨_, rfl⟩
      rw [← hs9]
      have f9 : Fr (fun q => q = 3 ∨ q = 0) t2 s9 := by rw [hs9]; exact (Fr.sg (Or.inl rfl)).tr (Fr.sg (Or.inr rfl))
      have b08 : s9.2.2 0 8 = g := by rw [hs9, sg_q]; dsimp only; rw [if_pos rfl]
      have b31 : s9.2.2 3 1 = g6 := by rw [hs9, sg_r _ _ _ _ (by decide), sg_q]; dsimp only; rw [if_pos rfl]
      have b1 : s9.1 = t2.1 := by rw [hs9, sg_1, sg_1]
      have b6 : s9.2.2 6 = t2.2.2 6 := (f9 6 (by omega)).2.2
      have hG9 : CG G' g s9 := by
        have := a3.fr f2 (fun k hk => by unfold gId; omega)
        exact this.fr f9 (fun k hk => by unfold gId; omega)
      have hG9' : CG G' (s9.2.2 0 8) s9 := by rw [b08]; exact hG9
      have F9 : Fr (isLc g) s s9 := ((f1.wk (fun q hq => by unfold isRx at hq; unfold isLc; rcases hq with hq | hq | hq <;> first | exact Or.inr (Or.inr (Or.inl hq)) | omega)).tr (f2.wk (fun q hq => by unfold isLc; omega))).tr (f9.wk (fun q hq => by unfold isLc; omega))
      have hLW : LW s9 := hX.2.2.2.1.fr F9 (fun q k1 k2 => by unfold isLc isG isS isT isP; omega)
      refine wp_call (study_c hG9' (by rw [b08]; exact i2) wg hLW hn) (fun _ t10 ⟨f10, ⟨k1, k2, k3, k4, k5⟩, _⟩ => ?_)
      have c08 : t10.2.2 0 8 = g := by rw [(f10 0 (by unfold isS isT isP; omega)).2.2]; exact b08
      have c31 : t10.2.2 3 1 = g6 := by rw [(f10 3 (by unfold isS isT isP; omega)).2.2]; exact b31
      have c6 : t10.2.2 6 = t2.2.2 6 := by rw [(f10 6 (by unfold isS isT isP; omega)).2.2]; exact b6
      have c51 : t10.1 5 1 = t2.1 5 1 := by rw [(f10 5 (by unfold isS isT isP; omega)).1, b1]
      have c32 : t10.1 3 2 = -9 := by rw [(f10 3 (by unfold isS isT isP; omega)).1, b1, (f2 3 (by omega)).1]; exact a2
      have hG10 : CG G' g t10 := hG9.fr f10 (gIS i2)
      rw [lt_def, c08, count_c hG10, bd_ok]
      have cg6 : ∀ h2, h2 < 4 → s.2.2 6 h2 < 6 ∧ s.2.2 6 h2 ≠ c ∧ s.2.2 6 h2 ≠ g := fun h2 hh2 => ⟨i3 h2 hh2, (i5 h2 hh2).1, (i5 h2 hh2).2⟩
      refine wp_some (Or.inr ⟨G', a1, rfl, c32, F9.tr (f10.wk (fun q hq => Or.inr (Or.inr (Or.inr hq)))), ⟨by rw [c08]; exact i2, by rw [c08]; exact hG10, k1, k2⟩, ?_, k3, k4, k5, ?_⟩)
      · rcases hc2 with ⟨d1, d2, d3, d4⟩ | ⟨d1, d2, d3, d4⟩
        · rw [e6] at d2 d4
          have P6 : ∀ i, t10.2.2 6 i = if i = h then c else s.2.2 6 i := fun i => by rw [c6]; exact d4 i
          have q := cg6 h d1
          refine ⟨by rw [c08]; exact i2, by rw [c31, d2]; exact q.1, fun i hi => ?_, ?_, fun i hi => ?_, fun i j hi hj hij => ?_⟩
          · rw [P6]
            by_cases e : i = h
            · rw [if_pos e]; exact i1
            · rw [if_neg e]; exact i3 i hi
          · rw [c08, c31, d2]; exact fun e => q.2.2 e.symm
          · rw [c08, c31, d2, P6]
            by_cases e : i = h
            · rw [if_pos e]; exact ⟨i4, fun e' => q.2.1 e'.symm⟩
            · rw [if_neg e]; exact ⟨(i5 i hi).2, i6 i h hi d1 e⟩
          · rw [P6, P6]
            by_cases e : i = h
            · rw [if_pos e, if_neg (by omega)]; exact fun e' => (i5 j hj).1 e'.symm
            · rw [if_neg e]
              by_cases e2 : j = h
              · rw [if_pos e2]; exact (i5 i hi).1
              · rw [if_neg e2]; exact i6 i j hi hj hij
        · rw [e6] at d2 d4
          have P6 : ∀ i, i < 4 → t10.2.2 6 i = if i = 3 then c else s.2.2 6 (i + 1) := fun i hi => by rw [c6]; exact d4 i hi
          have q := cg6 0 (by decide)
          refine ⟨by rw [c08]; exact i2, by rw [c31, d2]; exact q.1, fun i hi => ?_, ?_, fun i hi => ?_, fun i j hi hj hij => ?_⟩
          · rw [P6 i hi]
            by_cases e : i = 3
            · rw [if_pos e]; exact i1
            · rw [if_neg e]; exact i3 (i + 1) (by omega)
          · rw [c08, c31, d2]; exact fun e => q.2.2 e.symm
          · rw [c08, c31, d2, P6 i hi]
            by_cases e : i = 3
            · rw [if_pos e]; exact ⟨i4, fun e' => q.2.1 e'.symm⟩
            · rw [if_neg e]; exact ⟨(i5 (i + 1) (by omega)).2, i6 (i + 1) 0 (by omega) (by omega) (by omega)⟩
          · rw [P6 i hi, P6 j hj]
            by_cases e : i = 3
            · rw [if_pos e, if_neg (by omega)]; exact fun e' => (i5 (j + 1) (by omega)).1 e'.symm
            · rw [if_neg e]
              by_cases e2 : j = 3
              · rw [if_pos e2]; exact (i5 (i + 1) (by omega)).1
              · rw [if_neg e2]; exact i6 (i + 1) (j + 1) (by omega) (by omega) (by omega)
      · rcases hc2 with ⟨d1, d2, d3, d4⟩ | ⟨d1, d2, d3, d4⟩
        · rw [e6] at d4
          exact Or.inl ⟨d1, by rw [c51]; exact d3, fun i => by rw [c6]; exact d4 i⟩
        · rw [e6] at d4
          exact Or.inr ⟨d1, by rw [c51]; exact d3, fun i hi => by rw [c6]; exact d4 i hi⟩
  obtain ⟨r, s1, e, hp⟩ := key
  subst hg; subst hc
  exact ⟨r, s1, e, hp⟩
theorem load_b {s : PH} (hI : INV s) {n : Nat} (hn : 30000 ≤ n) : ∃ r s1 s2, fX11_load n s = some (r, s1) ∧ fX12_load n s1 = some (r, s2) ∧ INV s2 := by
  obtain ⟨G, L, tx, hK, hX, hM, hT, hkd, hCH, hH, hID, hE, hDI, hAM⟩ := hI
  have w := hK.1
  obtain ⟨h, hh, a5, a2, hrow⟩ := id hH
  obtain ⟨i1, i2, i3, i4, i5, i6⟩ := id hID
  obtain ⟨g, hg⟩ : ∃ g, g = s.2.2 3 1 := ⟨_, rfl⟩
  obtain ⟨r, s1, e1, hc1⟩ := load_c hX hT hID hh a5 (show 2000 ≤ n by omega)
  rw [← hg] at hc1 i2 i4
  rcases hc1 with ⟨k, p, b1, b2, b3, b4, b5, f1, b6⟩ | ⟨G', b1, b2, b3, f1, hX1, hID1, z5, z6, z29, hcls⟩
  · -- a fault
    have e148 : s1.1 148 = s.1 148 := (f1 148 (by unfold isRx isG; omega)).1
    have hT1 : TX L tx s1 := hT.fr f1 (by unfold isRx isG; omega) (by unfold isRx isG; omega) (by unfold isRx isG; omega) (by rw [e148])
    obtain ⟨r2, s2, e2, k2, hc2⟩ := load_m hT1.tm (fun c hc => by rw [(f1 163 (by unfold isRx isG; omega)).1]; exact hM.2.2.2.2.2.2.2.2.2.1 c hc) ⟨h, hh, by rw [e148]; exact a2⟩ hn
    rcases hc2 with ⟨k', p', c1, c2, c3, c4, c5, f2, c6⟩ | ⟨G', c1, _⟩
    · obtain ⟨ek, ep⟩ := b1.uniq c1
      subst ek; subst ep
      have er : r2 = r := by rw [b4, c4]
      subst er
      obtain ⟨Q, hQ⟩ : ∃ Q : Nat → Prop, Q = fun q => isRx g q ∨ isRm q := ⟨_, rfl⟩
      have F : Fr Q s s2 := by rw [hQ]; exact (f1.wk (fun q hq => Or.inl hq)).tr (f2.wk (fun q hq => Or.inr hq))
      have k148 : ∀ k, k ≠ 5 → k ≠ 21 → k ≠ 22 → s2.1 148 k = s.1 148 k := fun k q1 q2 q3 => by
        by_cases q0 : k = 2
        · rw [q0, c6, e148]
        · rw [k2 k q0 q1 q2 q3, e148]
      have e31 : s2.2.2 3 1 = s.2.2 3 1 := by rw [(f2 3 (by unfold isRm; omega)).2.2, ← hg]; exact b6
      have e08 : s2.2.2 0 8 = s.2.2 0 8 := by rw [(F 0 (by rw [hQ]; unfold isRx isG isRm; omega)).2.2]
      have e6 : s2.2.2 6 = s.2.2 6 := (F 6 (by rw [hQ]; unfold isRx isG isRm; omega)).2.2
      refine ⟨r2, s1, s2, e1, e2, G, L, tx, hK, ?_, ?_, ?_, ?_, ?_, ?_, ?_, ?_, ?_, ?_⟩
      · exact hX.fr2 w F e08 (fun k hk => by rw [hQ]; unfold isRx isG isRm gId; omega) (fun q hq => by rw [hQ]; unfold isRx isG isRm; omega)
      · exact hM.fr F (fun q hq => by rw [hQ]; unfold isRx isG isRm; omega)
      · exact hT.fr F (by rw [hQ]; unfold isRx isG isRm; omega) (by rw [hQ]; unfold isRx isG isRm; omega) (by rw [hQ]; unfold isRx isG isRm; omega) (k148 4 (by decide) (by decide) (by decide))
      · rw [c5, (f2 3 (by unfold isRm; omega)).1]; exact b5
      · exact hCH.fr F (by rw [hQ]; unfold isRx isG isRm; omega) (by rw [hQ]; unfold isRx isG isRm; omega) (by rw [hQ]; unfold isRx isG isRm; omega) (k148 7 (by decide) (by decide) (by decide))
      · refine hH.fr2 F ?_ e6 (by rw [hQ]; unfold isRx isG isRm; omega) (k148 2 (by decide) (by decide) (by decide)) (fun i k hi hk => ?_)
        · rw [(F 5 (by rw [hQ]; unfold isRx isG isRm; omega)).1]
        · have q1 := i3 i hi
          have q2 := (i5 i hi).2
          rw [← hg] at q2
          rw [hQ]
          unfold isRx isG isRm gId
          omega
      · unfold IDS
        rw [e08, e31, e6]
        exact hID
      · exact hE.fr F (by rw [hQ]; unfold isRx isG isRm; omega)
      · exact hDI.fr F (by rw [hQ]; unfold isRx isG isRm; omega) (by rw [hQ]; unfold isRx isG isRm; omega) (by rw [hQ]; unfold isRx isG isRm; omega) (by rw [hQ]; unfold isRx isG isRm; omega) (by rw [hQ]; unfold isRx isG isRm; omega)
      · exact hAM.fr F (by rw [hQ]; unfold isRx isG isRm; omega)
    · exact (b1.no c1).elim
  · -- a grammar
    have e148 : s1.1 148 = s.1 148 := (f1 148 (by unfold isLc isG isS isT isP; omega)).1
    have hT1 : TX L tx s1 := hT.fr f1 (by unfold isLc isG isS isT isP; omega) (by unfold isLc isG isS isT isP; omega) (by unfold isLc isG isS isT isP; omega) (by rw [e148])
    obtain ⟨r2, s2, e2, k2, hc2⟩ := load_m hT1.tm (fun c hc => by rw [(f1 163 (by unfold isLc isG isS isT isP; omega)).1]; exact hM.2.2.2.2.2.2.2.2.2.1 c hc) ⟨h, hh, by rw [e148]; exact a2⟩ hn
    rcases hc2 with ⟨k', p', c1, _⟩ | ⟨G2, c1, c2, c3, f2, hM2, hK2, hHM⟩
    · exact (c1.no b1).elim
    · have eG := b1.uniq c1
      subst eG
      have er : r2 = r := by rw [b2, c2]
      subst er
      have wg := hK2.1
      obtain ⟨Q, hQ⟩ : ∃ Q : Nat → Prop, Q = fun q => isLc g q ∨ isLm q := ⟨_, rfl⟩
      have F : Fr Q s s2 := by rw [hQ]; exact (f1.wk (fun q hq => Or.inl hq)).tr (f2.wk (fun q hq => Or.inr hq))
      have k148 : ∀ k, k ≠ 2 → k ≠ 5 → k ≠ 21 → k ≠ 22 → s2.1 148 k = s.1 148 k := fun k q0 q1 q2 q3 => by rw [k2 k q0 q1 q2 q3, e148]
      have lo : ∀ q, q < 148 → s2.1 q = s1.1 q := fun q hq => (f2 q (by unfold isLm; omega)).1
      have e6 : s2.2.2 6 = s1.2.2 6 := (f2 6 (by unfold isLm; omega)).2.2
      have e22 : ∀ q, q < 148 → s2.2.2 q = s1.2.2 q := fun q hq => (f2 q (by unfold isLm; omega)).2.2
      have keep : ∀ G0 g0, g0 < 6 → g0 ≠ g → CG G0 g0 s → CG G0 g0 s2 := fun G0 g0 q1 q2 q3 => q3.fr F (fun k hk => by rw [hQ]; unfold isLc isG isS isT isP isLm gId; omega)
      have hcur : ∀ g0, g0 = s.2.2 0 8 → CG G g0 s2 := fun g0 q => keep G g0 (by rw [q]; exact i1) (by rw [q]; exact i4) (by rw [q]; exact hX.2.1)
      refine ⟨r2, s1, s2, e1, e2, G', L, tx, hK2, ?_, hM2, ?_, ?_, ?_, ?_, ?_, ?_, Or.inl ⟨?_, ?_⟩, Or.inl ?_⟩
      · exact hX1.fr wg f2 (fun q hq => by unfold isLm; omega)
      · exact hT.fr F (by rw [hQ]; unfold isLc isG isS isT isP isLm; omega) (by rw [hQ]; unfold isLc isG isS isT isP isLm; omega) (by rw [hQ]; unfold isLc isG isS isT isP isLm; omega) (k148 4 (by decide) (by decide) (by decide) (by decide))
      · rw [c3, lo 3 (by decide)]; exact b3
      · exact hCH.fr F (by rw [hQ]; unfold isLc isG isS isT isP isLm; omega) (by rw [hQ]; unfold isLc isG isS isT isP isLm; omega) (by rw [hQ]; unfold isLc isG isS isT isP isLm; omega) (k148 7 (by decide) (by decide) (by decide) (by decide))
      · obtain ⟨h', hh', ha2, hHM⟩ := hHM
        have eh : h' = h := by
          rw [e148, a2, eq_ok (by omega) (by omega)] at ha2
          exact ha2.symm
        subst eh
        have q150 : s1.1 150 = s.1 150 := (f1 150 (by unfold isLc isG isS isT isP; omega)).1
        have q149 : s1.1 149 = s.1 149 := (f1 149 (by unfold isLc isG isS isT isP; omega)).1
        rw [q150, q149] at hHM
        rcases hcls with ⟨d1, d2, d3⟩ | ⟨d1, d2, d3⟩
        · rcases hHM with ⟨_, m2, m3, m4⟩ | ⟨m1, _⟩
          · refine ⟨h' + 1, by omega, by rw [lo 5 (by decide)]; exact d2, m2, fun i hi => ?_⟩
            by_cases ei : i = h'
            · subst ei
              refine ⟨G, w, ?_, MG.cg w hM.1 (fun k hk => m4 k hk)⟩
              refine hcur _ ?_
              rw [e6, d3, if_pos rfl]
            · obtain ⟨G0, r1, r2, r3⟩ := hrow i (by omega)
              refine ⟨G0, r1, ?_, MG.cg r1 r3 (fun k hk => m3 i k (by omega) hk)⟩
              rw [e6, d3, if_neg ei]
              refine keep G0 _ (i3 i (by omega)) ?_ r2
              rw [hg]
              exact (i5 i (by omega)).2
          · omega
        · rcases hHM with ⟨m1, _⟩ | ⟨_, m2, m3, m4⟩
          · omega
          · refine ⟨4, Nat.le_refl _, by rw [lo 5 (by decide)]; exact d2, m2, fun i hi => ?_⟩
            by_cases ei : i = 3
            · subst ei
              refine ⟨G, w, ?_, MG.cg w hM.1 (fun k hk => m4 k hk)⟩
              refine hcur _ ?_
              rw [e6, d3 3 (by decide), if_pos rfl]
            · obtain ⟨G0, r1, r2, r3⟩ := hrow (i + 1) (by omega)
              refine ⟨G0, r1, ?_, MG.cg r1 r3 (fun k hk => m3 i k (by omega) hk)⟩
              rw [e6, d3 i hi, if_neg ei]
              refine keep G0 _ (i3 (i + 1) (by omega)) ?_ r2
              rw [hg]
              exact (i5 (i + 1) (by omega)).2
      · unfold IDS
        rw [e22 0 (by decide), e22 3 (by decide), e6]
        exact hID1
      · exact hE.fr F (by rw [hQ]; unfold isLc isG isS isT isP isLm; omega)
      · rw [lo 24 (by decide)]; exact z5
      · rw [lo 24 (by decide)]; exact z6
      · rw [lo 29 (by decide)]; exact z29
def isUc (q : Nat) : Prop := q = 0 ∨ q = 5 ∨ q = 6 ∨ isS q
def isUm (q : Nat) : Prop := q = 148 ∨ q = 149 ∨ (153 ≤ q ∧ q ≤ 164)
theorem undo_b {s : PH} (hI : INV s) {n : Nat} (hn : 30000 ≤ n) : ∃ r s1 s2, fX11_undo n s = some (r, s1) ∧ fX12_undo n s1 = some (r, s2) ∧ INV s2 := by
  obtain ⟨G, L, tx, hK, hX, hM, hT, hkd, hCH, hH, hID, hE, hDI, hAM⟩ := id hI
  have w := hK.1
  obtain ⟨h, hh, a5, a2, hrow⟩ := id hH
  obtain ⟨i1, i2, i3, i4, i5, i6⟩ := id hID
  unfold fX11_undo fX12_undo fX5_count
  by_cases h0 : h = 0
  · subst h0
    rw [bd_ok, a5, if_pos n0_0]
    refine ⟨-2, s, s, rfl, ?_, hI⟩
    rw [a2, if_pos n0_0]
  · obtain ⟨h', rfl⟩ : ∃ h', h = h' + 1 := ⟨h - 1, by omega⟩
    obtain ⟨G0, w0, hC0, hM0⟩ := hrow h' (by omega)
    obtain ⟨c, hc⟩ : ∃ c, c = s.2.2 0 8 := ⟨_, rfl⟩
    obtain ⟨g0, hg0⟩ : ∃ g0, g0 = s.2.2 6 h' := ⟨_, rfl⟩
    have hg06 : g0 < 6 := by rw [hg0]; exact i3 h' (by omega)
    rw [← hg0] at hC0
    -- the class
    have cls : wp (bd (some (s.1 5 1, s)) fun (r2 : Int32) (s1 : PH) => (if r2 = 0 then (some ((-2 : Int32), s1)) else (lt (s1.2.2 0 8) fun (g3 : Nat) => (bd (fX5_exchangeLatest g3 s1) fun (g5 : Nat) (s4 : PH) => (lt (sg s4 0 8 g5) fun (s6 : PH) => (bd (fX11_study n s6) fun _ (s7 : PH) => (bd (some (s7.1 5 1, s7)) fun (r9 : Int32) (s8 : PH) => (some (r9, s8))))))))) (fun r t => r = nI h' ∧ Fr isUc s t ∧ t.1 5 1 = nI h' ∧ t.2.2 0 8 = g0 ∧ (∀ i, t.2.2 6 i = if i = h' then c else s.2.2 6 i) ∧ XG G0 t ∧ t.1 24 5 = nI 0 ∧ t.1 24 6 = nI 0 ∧ t.1 29 1 = nI 0) := by
      unfold fX5_exchangeLatest
      rw [bd_ok, a5, if_neg (by rw [eq0_ok (by omega)]; omega), lt_def, if_neg (by rw [eq0_ok (by omega)]; omega), nI_subN (by omega), show h' + 1 - 1 = h' by omega, lt_def]
      have e51 : (si s 5 1 (nI h')).1 5 1 = nI h' := by simp [si_1]
      rw [e51, ra_ok _ _ (by omega) (by decide), wa_ok _ (by omega) (by decide), cl_ok (by omega), lt_def, bd_ok, lt_def, ← hc]
      have eg : (si s 5 1 (nI h')).2.2 6 h' = g0 := hg0.symm
      rw [eg]
      obtain ⟨s6, hs6⟩ : ∃ s6, s6 = sg (sg (si s 5 1 (nI h')) 6 h' c) 0 8 g0 := ⟨_, rfl⟩
      rw [← hs6]
      have f6 : Fr isUc s s6 := by rw [hs6]; exact ((Fr.si (by unfold isUc; omega)).tr (Fr.sg (by unfold isUc; omega))).tr (Fr.sg (by unfold isUc; omega))
      have b08 : s6.2.2 0 8 = g0 := by rw [hs6, sg_q]; dsimp only; rw [if_pos rfl]
      have b6 : ∀ i, s6.2.2 6 i = if i = h' then c else s.2.2 6 i := fun i => by rw [hs6, sg_r _ _ _ _ (by decide), sg_q]; rfl
      have b51 : s6.1 5 1 = nI h' := by rw [hs6]; exact e51
      have hG6 : CG G0 g0 s6 := hC0.fr f6 (fun k hk => by unfold isUc isS isT isP gId; omega)
      have hLW : LW s6 := hX.2.2.2.1.fr f6 (fun q k1 k2 => by unfold isUc isS isT isP; omega)
      refine wp_call (study_c (by rw [b08]; exact hG6) (by rw [b08]; exact hg06) w0 hLW (show 2000 ≤ n by omega)) (fun _ t7 ⟨f7, ⟨k1, k2, k3, k4, k5⟩, _⟩ => ?_)
      have c51 : t7.1 5 1 = nI h' := by rw [(f7 5 (by unfold isS isT isP; omega)).1]; exact b51
      have c08 : t7.2.2 0 8 = g0 := by rw [(f7 0 (by unfold isS isT isP; omega)).2.2]; exact b08
      rw [bd_ok, c51]
      refine wp_some ⟨rfl, f6.tr (f7.wk (fun q hq => Or.inr (Or.inr (Or.inr hq)))), c51, c08, fun i => ?_, ⟨by rw [c08]; exact hg06, by rw [c08]; exact hG6.fr f7 (gIS hg06), k1, k2⟩, k3, k4, k5⟩
      rw [(f7 6 (by unfold isS isT isP; omega)).2.2]
      exact b6 i
    obtain ⟨r, s1, e1, er, f1, c51, c08, c6, hX1, z5, z6, z29⟩ := cls
    have e148 : s1.1 148 = s.1 148 := (f1 148 (by unfold isUc isS isT isP; omega)).1
    have e150 : s1.1 150 = s.1 150 := (f1 150 (by unfold isUc isS isT isP; omega)).1
    -- the reference
    have ref : wp (if (s1.1 148 2) = 0 then (some ((-2 : Int32), s1)) else (lt (si s1 148 2 ((s1.1 148 2) - (nI 1))) fun (s1 : PH) => (lt (nI 0) fun (v2 : Int32) => (loo2 (fun (recrec5 : Int32 → PH → Option (Int32 × PH)) (v3 : Int32) (s4 : PH) => (if (nI 113) ≤ v3 then (bd (fX12_lays n s4) fun _ (s6 : PH) => (some ((s6.1 148 2), s6))) else (ra 452 (((nI 113) * (s4.1 148 2)) + v3) (s4.1 150) fun (v7 : Int32) => (wa 113 v3 (lt (si s4 149 v3.toNatClampNeg v7) fun (s8 : PH) => (lt (v3 + (nI 1)) fun (v9 : Int32) => (recrec5 v9 s8))))))) n v2 s1)))) (fun r t => r = nI h' ∧ Fr isUm s1 t ∧ (∀ k, k ≠ 2 → t.1 148 k = s1.1 148 k) ∧ t.1 148 2 = nI h' ∧ MLd G0 t ∧ GK G0) := by
      rw [e148, a2, if_neg (by rw [eq0_ok (by omega)]; omega), nI_subN (by omega), show h' + 1 - 1 = h' by omega, lt_def, lt_def]
      refine wp_for2 113 (by omega) (fun j t => Fr (fun q => q = 148 ∨ q = 149) s1 t ∧ (∀ k, k ≠ 2 → t.1 148 k = s1.1 148 k) ∧ t.1 148 2 = nI h' ∧ ∀ k, k < j → t.1 149 k = s.1 150 (113 * h' + k)) ?_ ?_ n 0 _ (Nat.zero_le _) ⟨Fr.si (Or.inl rfl), fun k hk => by simp [si_1, hk], by simp [si_1], fun k hk => absurd hk (Nat.not_lt_zero k)⟩ (by omega)
      · rintro rec j t hj ⟨hf, t148, t2, t149⟩ ih
        have t150 : t.1 150 = s.1 150 := by rw [(hf 150 (by omega)).1]; exact e150
        rw [if_neg (by rw [le_ok (by decide) (by omega)]; omega), t2, nI_mulN, nI_add, ra_ok _ _ (by omega) (by decide), t150, wa_ok _ (by omega) (by decide), cl_ok (by omega), lt_def, lt_def, nI_add]
        refine ih _ ⟨hf.tr (Fr.si (Or.inr rfl)), fun k hk => by rw [si_r _ _ _ _ (by decide)]; exact t148 k hk, by rw [si_r _ _ _ _ (by decide)]; exact t2, fun k hk => ?_⟩
        rw [si_q]
        dsimp only
        by_cases e : k = j
        · rw [if_pos e, e]
        · rw [if_neg e]; exact t149 k (by omega)
      · rintro rec t ⟨hf, t148, t2, t149⟩
        rw [if_pos (by rw [le_ok (by decide) (by decide)]; exact Nat.le_refl _)]
        have hM1 : MG G0 (t.1 149) := MG.cg w0 hM0 (fun k hk => t149 k hk)
        refine wp_call (lays_e hM1 w0 (fun c hc => by rw [(hf 163 (by omega)).1, (f1 163 (by unfold isUc isS isT isP; omega)).1]; exact hM.2.2.2.2.2.2.2.2.2.1 c hc) hn) (fun _ t6 ⟨f6, hMLd, hFOK, hOOK⟩ => ?_)
        have e6 : t6.1 148 = t.1 148 := (f6 148 (by unfold isL; omega)).1
        refine wp_some ⟨by rw [e6]; exact t2, (hf.wk (fun q hq => by unfold isUm; omega)).tr (f6.wk (fun q hq => by unfold isL at hq; unfold isUm; omega)), fun k hk => by rw [e6, t148 k hk, e148], by rw [e6]; exact t2, hMLd, ⟨w0, hFOK, hOOK⟩⟩
    obtain ⟨r2, s2, e2, er2, f2, k148, d2, hM2, hK2⟩ := ref
    have ee : r2 = r := by rw [er, er2]
    subst ee
    obtain ⟨Q, hQ⟩ : ∃ Q : Nat → Prop, Q = fun q => isUc q ∨ isUm q := ⟨_, rfl⟩
    have F : Fr Q s s2 := by rw [hQ]; exact (f1.wk (fun q hq => Or.inl hq)).tr (f2.wk (fun q hq => Or.inr hq))
    have lo : ∀ q, q < 148 → s2.1 q = s1.1 q ∧ s2.2.2 q = s1.2.2 q := fun q hq => ⟨(f2 q (by unfold isUm; omega)).1, (f2 q (by unfold isUm; omega)).2.2⟩
    have k148' : ∀ k, k ≠ 2 → s2.1 148 k = s.1 148 k := fun k hk => by rw [k148 k hk, e148]
    have e31 : s2.2.2 3 1 = s.2.2 3 1 := by rw [(F 3 (by rw [hQ]; unfold isUc isS isT isP isUm; omega)).2.2]
    have e08 : s2.2.2 0 8 = g0 := by rw [(lo 0 (by decide)).2]; exact c08
    have e6 : ∀ i, s2.2.2 6 i = if i = h' then c else s.2.2 6 i := fun i => by rw [(lo 6 (by decide)).2]; exact c6 i
    refine ⟨r2, s1, s2, e1, e2, G0, L, tx, hK2, ?_, hM2, ?_, ?_, ?_, ?_, ?_, ?_, Or.inl ⟨?_, ?_⟩, Or.inl ?_⟩
    · exact hX1.fr w0 f2 (fun q hq => by unfold isUm; omega)
    · exact hT.fr F (by rw [hQ]; unfold isUc isS isT isP isUm; omega) (by rw [hQ]; unfold isUc isS isT isP isUm; omega) (by rw [hQ]; unfold isUc isS isT isP isUm; omega) (k148' 4 (by decide))
    · rw [k148' 5 (by decide), (F 3 (by rw [hQ]; unfold isUc isS isT isP isUm; omega)).1]; exact hkd
    · exact hCH.fr F (by rw [hQ]; unfold isUc isS isT isP isUm; omega) (by rw [hQ]; unfold isUc isS isT isP isUm; omega) (by rw [hQ]; unfold isUc isS isT isP isUm; omega) (k148' 7 (by decide))
    · refine ⟨h', by omega, by rw [(lo 5 (by decide)).1]; exact c51, d2, fun i hi => ?_⟩
      obtain ⟨G1, r1, r2, r3⟩ := hrow i (by omega)
      have h6 := i3 i (by omega)
      refine ⟨G1, r1, ?_, ?_⟩
      · rw [e6 i, if_neg (by omega)]
        exact r2.fr F (fun k hk => by rw [hQ]; unfold isUc isS isT isP isUm gId; omega)
      · rw [(F 150 (by rw [hQ]; unfold isUc isS isT isP isUm; omega)).1]; exact r3
    · have q := i5 h' (by omega)
      refine ⟨by rw [e08]; exact hg06, by rw [e31]; exact i2, fun i hi => ?_, ?_, fun i hi => ?_, fun i j hi hj hij => ?_⟩
      · rw [e6]
        by_cases e : i = h'
        · rw [if_pos e, hc]; exact i1
        · rw [if_neg e]; exact i3 i hi
      · rw [e08, e31, hg0]; exact q.2
      · rw [e08, e31, e6, hg0]
        by_cases e : i = h'
        · rw [if_pos e, hc]; exact ⟨fun e' => q.1 e'.symm, i4⟩
        · rw [if_neg e]; exact ⟨i6 i h' hi (by omega) e, (i5 i hi).2⟩
      · rw [e6, e6]
        by_cases e : i = h'
        · rw [if_pos e, if_neg (by omega), hc]; exact fun e' => (i5 j hj).1 e'.symm
        · rw [if_neg e]
          by_cases e2 : j = h'
          · rw [if_pos e2, hc]; exact (i5 i hi).1
          · rw [if_neg e2]; exact i6 i j hi hj hij
    · exact hE.fr F (by rw [hQ]; unfold isUc isS isT isP isUm; omega)
    · rw [(lo 24 (by decide)).1]; exact z5
    · rw [(lo 24 (by decide)).1]; exact z6
    · rw [(lo 29 (by decide)).1]; exact z29
