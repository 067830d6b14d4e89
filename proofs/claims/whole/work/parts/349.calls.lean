/-! ===== BOTH: every call keeps what holds ===== -/
theorem INV.q {s : PH} {α : Type} {x y : Option (α × PH)} (hI : INV s) (h : ∃ r, x = some (r, s) ∧ y = some (r, s)) : ∃ r s1 s2, x = some (r, s1) ∧ y = some (r, s2) ∧ s1 = s ∧ INV s2 := by
  obtain ⟨r, h1, h2⟩ := h
  exact ⟨r, s, s, h1, h2, rfl, hI⟩
/-- a call's two answers, and what holds behind it -/
def TWO {α : Type} (x : Option (α × PH)) (y : PH → Option (α × PH)) : Prop := ∃ r s1 s2, x = some (r, s1) ∧ y s1 = some (r, s2) ∧ INV s2
theorem TWO.q {s : PH} {α : Type} {x : Option (α × PH)} {y : PH → Option (α × PH)} (hI : INV s) (h : ∃ r, x = some (r, s) ∧ y s = some (r, s)) : TWO x y := by
  obtain ⟨r, h1, h2⟩ := h
  exact ⟨r, s, s, h1, h2, hI⟩
theorem two_type {s : PH} (hI : INV s) (a : Int32) : TWO (fX11_type a s) (fun s1 => fX12_type a s1) := by
  obtain ⟨G, L, tx, hK, hX, hM, hT, hkd, hCH, hH, hID, hE, hDI, hAM⟩ := id hI
  have w := hK.1
  obtain ⟨r, s1, s2, e1, e2, hc⟩ := type_b hT a
  rcases hc with rfl | ⟨⟨L', tx', hT'⟩, f, k148, z5, z6⟩
  · exact ⟨r, s1, s2, e1, e2, hI⟩
  · refine ⟨r, s1, s2, e1, e2, G, L', tx', hK, hX.fr w f (fun q hq => by unfold isTy; omega), hM.fr f (fun q hq => by unfold isTy; omega), hT', ?_, hCH.fr f (by unfold isTy; omega) (by unfold isTy; omega) (by unfold isTy; omega) (k148 7 (by decide)), hH.fr hID f (by unfold isTy; omega) (by unfold isTy; omega) (by unfold isTy; omega) (k148 2 (by decide)) (fun q _ _ => by unfold isTy; omega), hID.fr f (by unfold isTy; omega) (by unfold isTy; omega) (by unfold isTy; omega), hE.fr f (by unfold isTy; omega), Or.inl ⟨z5, z6⟩, hAM.fr f (by unfold isTy; omega)⟩
    rw [(f 3 (by unfold isTy; omega)).1, k148 5 (by decide)]
    exact hkd
theorem two_clear {s : PH} (hI : INV s) : TWO (fX11_clear s) (fun s1 => fX12_clear s1) := by
  obtain ⟨G, L, tx, hK, hX, hM, hT, hkd, hCH, hH, hID, hE, hDI, hAM⟩ := id hI
  have w := hK.1
  obtain ⟨r, s1, s2, e1, e2, ⟨L', tx', hT'⟩, f, k148, z5, z6⟩ := clear_b hT
  refine ⟨r, s1, s2, e1, e2, G, L', tx', hK, hX.fr w f (fun q hq => by unfold isTy; omega), hM.fr f (fun q hq => by unfold isTy; omega), hT', ?_, hCH.fr f (by unfold isTy; omega) (by unfold isTy; omega) (by unfold isTy; omega) (k148 7 (by decide)), hH.fr hID f (by unfold isTy; omega) (by unfold isTy; omega) (by unfold isTy; omega) (k148 2 (by decide)) (fun q _ _ => by unfold isTy; omega), hID.fr f (by unfold isTy; omega) (by unfold isTy; omega) (by unfold isTy; omega), hE.fr f (by unfold isTy; omega), Or.inl ⟨z5, z6⟩, hAM.fr f (by unfold isTy; omega)⟩
  rw [(f 3 (by unfold isTy; omega)).1, k148 5 (by decide)]
  exact hkd
theorem two_fault {s : PH} (hI : INV s) : TWO (fX11_fault s) (fun s1 => fX12_fault s1) := by
  obtain ⟨G, L, tx, hK, hX, hM, hT, hkd, hCH, hH, hID, hE, hDI, hAM⟩ := id hI
  refine TWO.q hI ⟨s.1 3 2, rfl, ?_⟩
  unfold fX12_fault
  rw [hkd]
theorem two_parse {s : PH} (hI : INV s) {n : Nat} (hn : 30000 ≤ n) : TWO (fX11_parse n s) (fun s1 => fX12_parse n s1) := by
  obtain ⟨G, L, tx, hK, hX, hM, hT, hkd, hCH, hH, hID, hE, hDI, hAM⟩ := id hI
  have w := hK.1
  obtain ⟨r, s1, s2, e1, e2, f, k148, hCH2⟩ := parse_b hX hK hM hT (show 300 ≤ n by omega)
  refine ⟨r, s1, s2, e1, e2, G, L, tx, hK, hX.fr w f (fun q hq => by unfold isPs isPr isPq; omega), hM.fr f (fun q hq => by unfold isPs isPr isPq; omega), hT.fr f (by unfold isPs isPr isPq; omega) (by unfold isPs isPr isPq; omega) (by unfold isPs isPr isPq; omega) (k148 4 (by decide) (by decide)), ?_, hCH2, hH.fr hID f (by unfold isPs isPr isPq; omega) (by unfold isPs isPr isPq; omega) (by unfold isPs isPr isPq; omega) (k148 2 (by decide) (by decide)) (fun q _ _ => by unfold isPs isPr isPq; omega), hID.fr f (by unfold isPs isPr isPq; omega) (by unfold isPs isPr isPq; omega) (by unfold isPs isPr isPq; omega), hE.fr f (by unfold isPs isPr isPq; omega), hDI.fr f (by unfold isPs isPr isPq; omega) (by unfold isPs isPr isPq; omega) (by unfold isPs isPr isPq; omega) (by unfold isPs isPr isPq; omega) (by unfold isPs isPr isPq; omega), hAM.fr f (by unfold isPs isPr isPq; omega)⟩
  rw [(f 3 (by unfold isPs isPr isPq; omega)).1, k148 5 (by decide) (by decide)]
  exact hkd
theorem INV.sm {G : Gr} {L : Nat} {tx : Nat → Nat} {s t : PH} (hK : GK G) (hX : XG G s) (hM : MLd G s) (hT : TX L tx s) (hkd : s.1 3 2 = s.1 148 5) (hCH : CHs s) (hH : HS s) (hID : IDS s) (hE : EN s) (hAM : AM G s) (f : Fr isSm s t) (k148 : ∀ k, k ≠ 24 → t.1 148 k = s.1 148 k) (hDI : DI G L tx t) : INV t := by
  refine ⟨G, L, tx, hK, hX.fr hK.1 f (fun q hq => by unfold isSm isSt; omega), hM.fr f (fun q hq => by unfold isSm isSt; omega), hT.fr f (by unfold isSm isSt; omega) (by unfold isSm isSt; omega) (by unfold isSm isSt; omega) (k148 4 (by decide)), ?_, hCH.fr f (by unfold isSm isSt; omega) (by unfold isSm isSt; omega) (by unfold isSm isSt; omega) (k148 7 (by decide)), hH.fr hID f (by unfold isSm isSt; omega) (by unfold isSm isSt; omega) (by unfold isSm isSt; omega) (k148 2 (by decide)) (fun q _ _ => by unfold isSm isSt; omega), hID.fr f (by unfold isSm isSt; omega) (by unfold isSm isSt; omega) (by unfold isSm isSt; omega), hE.fr f (by unfold isSm isSt; omega), hDI, hAM.fr f (by unfold isSm isSt; omega)⟩
  rw [(f 3 (by unfold isSm isSt; omega)).1, k148 5 (by decide)]
  exact hkd
theorem two_deriv {s : PH} (hI : INV s) {n : Nat} (hn : 30000 ≤ n) : TWO (fX11_derivations n s) (fun s1 => fX12_derivations n s1) := by
  obtain ⟨G, L, tx, hK, hX, hM, hT, hkd, hCH, hH, hID, hE, hDI, hAM⟩ := id hI
  obtain ⟨r, s1, s2, e1, e2, f, k148, hD2⟩ := deriv_b hX hK hM hT hE hDI (show 500 ≤ n by omega)
  exact ⟨r, s1, s2, e1, e2, INV.sm hK hX hM hT hkd hCH hH hID hE hAM f k148 hD2⟩
theorem two_step {s : PH} (hI : INV s) {n : Nat} (hn : 30000 ≤ n) (a b : Int32) : TWO (fX11_step n a b s) (fun s1 => fX12_step n a b s1) := by
  obtain ⟨G, L, tx, hK, hX, hM, hT, hkd, hCH, hH, hID, hE, hDI, hAM⟩ := id hI
  obtain ⟨r, s1, s2, e1, e2, f, k148, hD2⟩ := step_b hX hK hM hT hE hDI (show 500 ≤ n by omega) a b
  exact ⟨r, s1, s2, e1, e2, INV.sm hK hX hM hT hkd hCH hH hID hE hAM f k148 hD2⟩
theorem two_amb {s : PH} (hI : INV s) {n : Nat} (hn : 30000 ≤ n) : TWO (fX11_ambiguous n s) (fun s1 => fX12_ambiguous n s1) := by
  obtain ⟨G, L, tx, hK, hX, hM, hT, hkd, hCH, hH, hID, hE, hDI, hAM⟩ := id hI
  obtain ⟨r, s1, s2, e1, e2, f, k148, hA2⟩ := amb_b hX hK hM hAM (show 900 ≤ n by omega)
  refine ⟨r, s1, s2, e1, e2, G, L, tx, hK, hX.fr hK.1 f (fun q hq => by unfold isAd isAc isRd; omega), hM.fr f (fun q hq => by unfold isAd isAc isRd; omega), hT.fr f (by unfold isAd isAc isRd; omega) (by unfold isAd isAc isRd; omega) (by unfold isAd isAc isRd; omega) (k148 4 (by decide)), ?_, hCH.fr f (by unfold isAd isAc isRd; omega) (by unfold isAd isAc isRd; omega) (by unfold isAd isAc isRd; omega) (k148 7 (by decide)), hH.fr hID f (by unfold isAd isAc isRd; omega) (by unfold isAd isAc isRd; omega) (by unfold isAd isAc isRd; omega) (k148 2 (by decide)) (fun q _ _ => by unfold isAd isAc isRd; omega), hID.fr f (by unfold isAd isAc isRd; omega) (by unfold isAd isAc isRd; omega) (by unfold isAd isAc isRd; omega), hE.fr f (by unfold isAd isAc isRd; omega), hDI.fr f (by unfold isAd isAc isRd; omega) (by unfold isAd isAc isRd; omega) (by unfold isAd isAc isRd; omega) (by unfold isAd isAc isRd; omega) (by unfold isAd isAc isRd; omega), hA2⟩
  rw [(f 3 (by unfold isAd isAc isRd; omega)).1, k148 5 (by decide)]
  exact hkd
/-! the law's loop -/
theorem sub4 {L i : Nat} (hL : L ≤ 2048) (hi : i ≤ 4000) : (nI L - nI 4 < nI i) = (L < i + 4) := by
  by_cases h : 4 ≤ L
  · rw [nI_subN h, lt_ok (by omega) (by omega)]
    apply propext
    omega
  · have hn : nI L - nI 4 < 0 := by
      have : L = 0 ∨ L = 1 ∨ L = 2 ∨ L = 3 := by omega
      rcases this with rfl | rfl | rfl | rfl <;> decide +kernel
    apply propext
    exact ⟨fun _ => by omega, fun _ => Int32.lt_of_lt_of_le hn (nI_pos' (by omega))⟩
theorem wp_two {x : Option (Int32 × PH)} {y : PH → Option (Int32 × PH)} {j : PH → Option (Unit × PH)} {Φ : Unit → PH → Prop} (h : TWO x y) (hj : ∀ t, INV t → wp (j t) Φ) : wp (bd x fun r1 s1 => bd (y s1) fun r2 s2 => if r1 = r2 then j s2 else none) Φ := by
  obtain ⟨r, s1, s2, e1, e2, hI⟩ := h
  rw [e1, bd_ok, e2, bd_ok, if_pos rfl]
  exact hj s2 hI
theorem wp_twoL {x : Option (Int64 × PH)} {y : PH → Option (Int64 × PH)} {j : PH → Option (Unit × PH)} {Φ : Unit → PH → Prop} (h : TWO x y) (hj : ∀ t, INV t → wp (j t) Φ) : wp (bd x fun r1 s1 => bd (y s1) fun r2 s2 => if r1 = r2 then j s2 else none) Φ := by
  obtain ⟨r, s1, s2, e1, e2, hI⟩ := h
  rw [e1, bd_ok, e2, bd_ok, if_pos rfl]
  exact hj s2 hI
theorem law_loop {L n : Nat} {xs : Nat → Int32} {s : PH} (hL : L ≤ 2048) (hn : 30000 ≤ n) (hI : INV s) : wp (flaw n L xs s) (fun _ _ => True) := by
  unfold flaw
  rw [lt_def]
  refine wp_loo2 (fun v t => ∃ i, i ≤ L + 4 ∧ v = nI i ∧ INV t) (fun v _ => L + 8 - v.toNatClampNeg) ?_ n _ s ⟨0, by omega, rfl, hI⟩ (by omega)
  rintro rec v t ⟨i, hi, rfl, hI⟩ ih
  by_cases hc : L < i + 4
  · rw [if_pos (by rw [sub4 hL (by omega)]; exact hc)]
    exact wp_some trivial
  · rw [if_neg (by rw [sub4 hL (by omega)]; exact hc), ra_ok _ _ (by omega) (by omega)]
    refine wp_jn1 (fun t' => INV t') ?_ ?_
    · intro t' hI'
      rw [lt_def, nI_add]
      refine ih _ _ ⟨i + 4, by omega, rfl, hI'⟩ ?_
      rw [cl_ok (by omega), cl_ok (by omega)]
      omega
    · intro j7 hj7
      obtain ⟨G, L', tx, hK, hX, hM, hT, hkd, hCH, hH, hID, hE, hDI, hAM⟩ := id hI
      have hn3 : 300 ≤ n := by omega
      have hn30 : 30 ≤ n := by omega
      have r1 : ∀ {β : Type} (k : Int32 → Option (β × PH)), ra L (nI i + nI 1) xs k = k (xs (i + 1)) := fun k => by rw [nI_add, ra_ok _ _ (by omega) (by omega)]
      have r2 : ∀ {β : Type} (k : Int32 → Option (β × PH)), ra L (nI i + nI 2) xs k = k (xs (i + 2)) := fun k => by rw [nI_add, ra_ok _ _ (by omega) (by omega)]
      have r3 : ∀ {β : Type} (k : Int32 → Option (β × PH)), ra L (nI i + nI 3) xs k = k (xs (i + 3)) := fun k => by rw [nI_add, ra_ok _ _ (by omega) (by omega)]
      refine wp_if (fun _ => ?_) (fun _ => ?_)
      · simp only [r1]
        exact wp_two (two_type hI _) hj7
      refine wp_if (fun _ => wp_two (two_clear hI) hj7) (fun _ => ?_)
      refine wp_if (fun _ => wp_two (load_b hI hn) hj7) (fun _ => ?_)
      refine wp_if (fun _ => wp_two (two_fault hI) hj7) (fun _ => ?_)
      refine wp_if (fun _ => ?_) (fun _ => ?_)
      · simp only [r1, r2]
        exact wp_two (y := fun s1 => fX12_production (xs (i + 1)) (xs (i + 2)) s1) (TWO.q hI (q_production hX hK hM _ _)) hj7
      refine wp_if (fun _ => ?_) (fun _ => ?_)
      · simp only [r1, r2]
        exact wp_two (y := fun s1 => fX12_symbol (xs (i + 1)) (xs (i + 2)) s1) (TWO.q hI (q_symbol hX hK hM _ _)) hj7
      refine wp_if (fun _ => ?_) (fun _ => ?_)
      · simp only [r1, r2]
        exact wp_two (y := fun s1 => fX12_nonterminal n (xs (i + 1)) (xs (i + 2)) s1) (TWO.q hI (q_nonterminal hX hK hM hn30 _ _)) hj7
      refine wp_if (fun _ => ?_) (fun _ => ?_)
      · simp only [r1, r2, r3]
        exact wp_two (y := fun s1 => fX12_first n (xs (i + 1)) (xs (i + 2)) (xs (i + 3)) s1) (TWO.q hI (q_first hX hK hM hn3 _ _ _)) hj7
      refine wp_if (fun _ => ?_) (fun _ => ?_)
      · simp only [r1, r2, r3]
        exact wp_two (y := fun s1 => fX12_follow n (xs (i + 1)) (xs (i + 2)) (xs (i + 3)) s1) (TWO.q hI (q_follow hX hK hM hn3 _ _ _)) hj7
      refine wp_if (fun _ => ?_) (fun _ => ?_)
      · simp only [r1, r2, r3]
        exact wp_two (y := fun s1 => fX12_ahead n (xs (i + 1)) (xs (i + 2)) (xs (i + 3)) s1) (TWO.q hI (q_ahead hX hK hM hn3 _ _ _)) hj7
      refine wp_if (fun _ => ?_) (fun _ => ?_)
      · simp only [r1, r2, r3]
        exact wp_two (y := fun s1 => fX12_words n (xs (i + 1)) (xs (i + 2)) (xs (i + 3)) s1) (TWO.q hI (q_words hX hK hM hn3 _ _ _)) hj7
      refine wp_if (fun _ => ?_) (fun _ => ?_)
      · simp only [r1, r2, r3]
        exact wp_two (y := fun s1 => fX12_word n (xs (i + 1)) (xs (i + 2)) (xs (i + 3)) s1) (TWO.q hI (q_word hX hK hM hn3 _ _ _)) hj7
      refine wp_if (fun _ => ?_) (fun _ => ?_)
      · simp only [r1, r2]
        exact wp_two (y := fun s1 => fX12_marks n (xs (i + 1)) (xs (i + 2)) s1) (TWO.q hI (q_marks hX hK hM hn3 _ _)) hj7
      refine wp_if (fun _ => ?_) (fun _ => ?_)
      · simp only [r1]
        exact wp_two (y := fun s1 => fX12_depth n (xs (i + 1)) s1) (TWO.q hI (q_depth hX hK hM hn3 _)) hj7
      refine wp_if (fun _ => ?_) (fun _ => ?_)
      · simp only [r1]
        exact wp_two (y := fun s1 => fX12_approximate n (xs (i + 1)) s1) (TWO.q hI (q_approximate hX hK hM hn3 _)) hj7
      refine wp_if (fun _ => ?_) (fun _ => ?_)
      · simp only [r1, jn_def]
        by_cases h0 : xs (i + 1) = 0
        · simp only [if_pos h0]
          exact wp_two (y := fun s1 => fX12_deepest n (nI 0) s1) (TWO.q hI (q_deepest hX hK hM hn3 _)) hj7
        · simp only [if_neg h0]
          exact wp_two (y := fun s1 => fX12_deepest n (nI 1) s1) (TWO.q hI (q_deepest hX hK hM hn3 _)) hj7
      refine wp_if (fun _ => ?_) (fun _ => ?_)
      · simp only [r1, r2]
        exact wp_two (y := fun s1 => fX12_clash n (xs (i + 1)) (xs (i + 2)) s1) (TWO.q hI (q_clash hX hK hM hn3 _ _)) hj7
      refine wp_if (fun _ => ?_) (fun _ => ?_)
      · simp only [r1, r2, r3]
        exact wp_two (y := fun s1 => fX12_clashWord n (xs (i + 1)) (xs (i + 2)) (xs (i + 3)) s1) (TWO.q hI (q_clashWord hX hK hM hn3 _ _ _)) hj7
      refine wp_if (fun _ => wp_two (two_parse hI hn) hj7) (fun _ => ?_)
      refine wp_if (fun _ => ?_) (fun _ => ?_)
      · simp only [r1]
        exact wp_two (y := fun s1 => fX12_chosen (xs (i + 1)) s1) (TWO.q hI (chosen_b hCH _)) hj7
      refine wp_if (fun _ => wp_two (two_deriv hI hn) hj7) (fun _ => ?_)
      refine wp_if (fun _ => ?_) (fun _ => ?_)
      · simp only [r1, r2]
        exact wp_two (two_step hI hn _ _) hj7
      refine wp_if (fun _ => wp_two (two_amb hI hn) hj7) (fun _ => ?_)
      refine wp_if (fun _ => ?_) (fun _ => ?_)
      · simp only [r1]
        exact wp_two (y := fun s1 => fX12_told n (xs (i + 1)) s1) (TWO.q hI (q_told hX hK hM hT hCH hH hn30 _)) hj7
      refine wp_if (fun _ => wp_two (undo_b hI hn) hj7) (fun _ => ?_)
      refine wp_if (fun _ => wp_twoL (digest_b hI hn3) hj7) (fun _ => ?_)
      exact hj7 _ hI
