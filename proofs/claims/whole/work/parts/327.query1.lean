/-! ===== BOTH: production, symbol, nonterminal ===== -/
theorem gt_ge {v : Int32} {k m : Nat} (hk : k < 2147483648) (hm : m < 2147483648) (h : nI k < v) (hmk : m ≤ k + 1) : nI m ≤ v := by
  have h4 := Int32.lt_iff_toInt_lt.mp h
  rw [nI_toInt hk] at h4
  apply Int32.le_iff_toInt_le.mpr
  rw [nI_toInt hm]
  omega
theorem nlt0 {x : Nat} (h : x < 2147483648) : ¬ nI x < 0 := by rw [lt0_ok h]; exact id
theorem nle {a b : Nat} (ha : a < 2147483648) (hb : b < 2147483648) (h : b < a) : ¬ nI a ≤ nI b := by rw [le_ok ha hb]; omega
theorem yle {a b : Nat} (hb : b < 2147483648) (h : a ≤ b) : nI a ≤ nI b := by rw [le_ok (by omega) hb]; exact h
section
variable {G : Gr} {s : PH}
theorem q_production (hX : XG G s) (hK : GK G) (hM : MLd G s) (a b : Int32) : ∃ r, fX11_production a b s = some (r, s) ∧ fX12_production a b s = some (r, s) := by
  have w := hK.1
  unfold fX11_production fX12_production
  simp only [lt_def, jn_def]
  rcases has_b hX w hM a with ⟨p, hp, rfl, h1, h2⟩ | ⟨h1, h2⟩
  · rw [h1, h2, bd_ok, bd_ok, if_neg n1_0, if_neg n1_0]
    rcases rge b 1 (by decide) with ⟨x, hx, rfl⟩ | h
    · rw [in_t hx (by decide), bd_ok, if_neg n1_0]
      simp (disch := omega) only [lt0_ok, if_false, le_ok, if_pos, eq0_ok, left_c hX.2.1 w hp, length_c hX.2.1 w hp, left_e hM.1 w hp, size_e hM.1 w hp, bd_ok]
      by_cases h0 : x = 0
      · rw [if_pos h0]; exact ⟨_, rfl, rfl⟩
      · rw [if_neg h0]; exact ⟨_, rfl, rfl⟩
    · rw [in_f h, bd_ok, if_pos n0_0]
      rcases rge_cases h with h3 | ⟨h3, h4⟩
      · rw [if_pos h3]; exact ⟨_, rfl, rfl⟩
      · rw [if_neg (Int32.not_lt.mpr h3), if_neg (Int32.not_le.mpr h4)]; exact ⟨_, rfl, rfl⟩
  · rw [h1, h2, bd_ok, bd_ok, if_pos n0_0, if_pos n0_0]; exact ⟨_, rfl, rfl⟩
theorem q_symbol (hX : XG G s) (hK : GK G) (hM : MLd G s) (a b : Int32) : ∃ r, fX11_symbol a b s = some (r, s) ∧ fX12_symbol a b s = some (r, s) := by
  have w := hK.1
  unfold fX11_symbol fX12_symbol
  simp only [lt_def, jn_def]
  rcases has_b hX w hM a with ⟨p, hp, rfl, h1, h2⟩ | ⟨h1, h2⟩
  · have h5 := (w.2.1 p hp).2
    rw [h1, h2, bd_ok, bd_ok, if_neg n1_0, if_neg n1_0]
    by_cases h0 : 0 ≤ b
    · rw [if_pos h0, if_pos h0, length_c hX.2.1 w hp, size_e hM.1 w hp, bd_ok, bd_ok]
      rcases rge b 4 (by decide) with ⟨i, hi, rfl⟩ | h
      · simp (disch := omega) only [le_ok]
        by_cases hl : G.2.2.1 p ≤ i
        · rw [if_pos hl, if_pos hl]; exact ⟨_, rfl, rfl⟩
        · rw [if_neg hl, if_neg hl, symbolAt_c hX.2.1 w hp (by omega), at_e hM.1 w hp (by omega)]; exact ⟨_, rfl, rfl⟩
      · have h3 : nI 4 < b := by
          rcases rge_cases h with h3 | h3
          · exact absurd h3 (Int32.not_lt.mpr h0)
          · exact h3.2
        have h4 := gt_ge (m := G.2.2.1 p) (by decide) (by omega) h3 (by omega)
        rw [if_pos h4, if_pos h4]; exact ⟨_, rfl, rfl⟩
    · rw [if_neg h0, if_neg h0]; exact ⟨_, rfl, rfl⟩
  · rw [h1, h2, bd_ok, bd_ok, if_pos n0_0, if_pos n0_0]; exact ⟨_, rfl, rfl⟩
end
theorem cntP_0 {G : Gr} {x : Nat} : ∀ n, cntP G x n = 0 → ∀ p, p < n → G.2.1 p ≠ x
  | 0, _, p, hp => absurd hp (Nat.not_lt_zero p)
  | n + 1, h, p, hp => by
    have e : cntP G x (n + 1) = cntP G x n + if G.2.1 n = x then 1 else 0 := rfl
    rw [e] at h
    by_cases en : p = n
    · intro hx
      rw [← en, if_pos hx] at h
      omega
    · exact cntP_0 n (by omega) p (by omega)
theorem cntP_pos {G : Gr} {x : Nat} : ∀ n p, p < n → G.2.1 p = x → 0 < cntP G x n
  | 0, p, hp, _ => absurd hp (Nat.not_lt_zero p)
  | n + 1, p, hp, hx => by
    have e : cntP G x (n + 1) = cntP G x n + if G.2.1 n = x then 1 else 0 := rfl
    rw [e]
    by_cases en : p = n
    · rw [← en, if_pos hx]; omega
    · have := cntP_pos n p (by omega) hx
      omega
theorem dfb_iff {G : Gr} {x : Nat} : dfb G x = true ↔ dfd G x := by
  unfold dfb
  rw [decide_eq_true_eq]
  constructor
  · intro h
    refine Classical.byContradiction (fun hc => ?_)
    have key : ∀ n, n ≤ G.1 → cntP G x n = 0 := by
      intro n
      induction n with
      | zero => intro _; rfl
      | succ n ih =>
        intro hn
        have e : cntP G x (n + 1) = cntP G x n + if G.2.1 n = x then 1 else 0 := rfl
        rw [e, ih (by omega), if_neg (fun hx => hc ⟨n, by omega, hx⟩)]
    have := key G.1 (Nat.le_refl _)
    omega
  · rintro ⟨p, hp, hx⟩
    exact cntP_pos G.1 p hp hx
section
variable {G : Gr}
theorem und_fR {f : Nat → Nat} {x : Nat} (h : dfb G x = false) : ∀ n, n ≤ G.1 → fR G f n x = f x
  | 0, _ => rfl
  | n + 1, hn => by
    show fStep G (fR G f n) n x = f x
    unfold fStep
    rw [if_neg, und_fR h n (by omega)]
    intro e
    have : dfb G x = true := dfb_iff.mpr ⟨n, by omega, e.symm⟩
    rw [h] at this
    cases this
theorem und_fI {x : Nat} (h : dfb G x = false) (K : Nat) : ∀ r, fI G K r x = K
  | 0 => rfl
  | r + 1 => by
    show fR G (fI G K r) G.1 x = K
    rw [und_fR h G.1 (Nat.le_refl _), und_fI h K r]
theorem und_rI (w : WG G) {x : Nat} (h : dfb G x = false) : ∀ r, rI G r x = false := by
  intro r
  induction r with
  | zero =>
    show decide (x = G.2.1 0) = false
    rw [decide_eq_false]
    intro e
    have : dfb G x = true := dfb_iff.mpr ⟨0, w.1.1, e.symm⟩
    rw [h] at this
    cases this
  | succ r ih =>
    have key : ∀ n, n ≤ G.1 → rR G (rI G r) n x = false := by
      intro n
      induction n with
      | zero => intro _; exact ih
      | succ n ihn =>
        intro hn
        show (rR G (rI G r) n x || (rR G (rI G r) n (G.2.1 n) && hN (G.2.2.2 n) (10 + x) (G.2.2.1 n))) = false
        rw [ihn (by omega), Bool.false_or]
        cases hb : hN (G.2.2.2 n) (10 + x) (G.2.2.1 n) with
        | false => rw [Bool.and_false]
        | true =>
          obtain ⟨i, hi, e⟩ := (hN_t _).mp hb
          rcases w.2.2.1 n i (by omega) hi with h1 | ⟨h1, h2, h3⟩
          · omega
          · rw [show G.2.2.2 n i - 10 = x by omega] at h3
            have : dfb G x = true := dfb_iff.mpr h3
            rw [h] at this
            cases this
    exact key G.1 (Nat.le_refl _)
theorem und_tR (w : WG G) {c : Bool} {E : Nat → Bool} {p : Nat} (hp : p < G.1) {x y : Nat} (hx : G.2.1 p ≠ x) (hy : y < 6) : ∀ n, n ≤ G.2.2.1 p → tRow c G E p n (6 * x + y) = false
  | 0, _ => rfl
  | n + 1, hn => by
    show (tRow c G E p n (6 * x + y) || (tQ c G E p n && decide (6 * x + y = 6 * G.2.1 p + G.2.2.2 p n - 10))) = false
    rw [und_tR w hp hx hy n (by omega), Bool.false_or]
    by_cases h10 : 10 ≤ G.2.2.2 p n
    · have := sy16 w hp (i := n) (by omega)
      rw [decide_eq_false (by omega), Bool.and_false]
    · unfold tQ
      rw [decide_eq_false h10]
      rfl
theorem und_tA (w : WG G) {c : Bool} {E : Nat → Bool} {x y : Nat} (h : dfb G x = false) (hy : y < 6) : ∀ n, n ≤ G.1 → tAll c G E n (6 * x + y) = false
  | 0, _ => rfl
  | n + 1, hn => by
    show (tAll c G E n (6 * x + y) || tRow c G E n (G.2.2.1 n) (6 * x + y)) = false
    rw [und_tA w h hy n (by omega), Bool.false_or]
    refine und_tR w (by omega) ?_ hy _ (Nat.le_refl _)
    intro e
    have : dfb G x = true := dfb_iff.mpr ⟨n, by omega, e⟩
    rw [h] at this
    cases this
theorem und_cl {T : Nat → Bool} {x : Nat} (h : ∀ y, y < 6 → T (6 * x + y) = false) : ∀ b, b ≤ 6 → ∀ y, y < 6 → clI T b (6 * x + y) = false
  | 0, _, y, hy => h y hy
  | b + 1, hb, y, hy => by
    show wcl (clI T b) b (6 * x + y) = false
    unfold wcl
    rw [und_cl h b (by omega) y hy, show (6 * x + y) / 6 = x by omega, und_cl h b (by omega) b (by omega)]
    rfl
theorem cnt_rng {x B E : Nat} (h : rng G x B E) : cntP G x G.1 = E - B := by
  have key : ∀ n, n ≤ G.1 → cntP G x n = min n E - min n B := by
    intro n
    induction n with
    | zero => intro _; simp [cntP]
    | succ n ih =>
      intro hn
      have e : cntP G x (n + 1) = cntP G x n + if G.2.1 n = x then 1 else 0 := rfl
      have h1 := h.1
      have h2 := h.2.2 n (by omega)
      rw [e, ih (by omega)]
      by_cases hx : G.2.1 n = x
      · have := h2.mp hx
        rw [if_pos hx]; omega
      · have : ¬ (B ≤ n ∧ n < E) := fun hc => hx (h2.mpr hc)
        rw [if_neg hx]; omega
  have h1 := h.1
  have h2 := h.2.1
  rw [key G.1 (Nat.le_refl _)]
  omega
variable {s : PH}
theorem tell_u (w : WG G) (hM : MLd G s) {x v n : Nat} (hx : x < 6) (hv : v < 7) (hd : dfb G x = false) (hn : 30 ≤ n) : fX12_tellName n (nI x) (nI v) s = some (nI 0, s) := by
  unfold fX12_tellName
  rw [if_neg (by rw [eq_ok (by omega) (by decide)]; omega), isDef_m hM w hx hn, bd_ok, hd, bI_f, if_pos n0_0]
theorem tell_d (w : WG G) (hM : MLd G s) {x v n : Nat} (hx : x < 6) (hv : v < 7) (hd : dfb G x = true) (hn : 30 ≤ n) : fX12_tellName n (nI x) (nI v) s = some (if v = 0 then nI 1 else if v = 1 then bI (eI G 6 x) else if v = 2 then bI (decide (fw G 1000000000 x < 1000000000)) else if v = 3 then bI (rI G 6 x) else if v = 4 then bI (clB false G (6 * x + x)) else if v = 5 then bI (clB true G (6 * x + x)) else nI (cntP G x G.1), s) := by
  obtain ⟨hMG, h153, h154, h155, h156, h157, hr⟩ := hM
  have hM' : MLd G s := ⟨hMG, h153, h154, h155, h156, h157, hr⟩
  have e6 : 6 * x + x < 36 := by omega
  have hf2 : fw G 1000000000 x ≤ 1000000000 := fI_le _ _ _ _
  have h154' : s.1 154 x = nI (fw G 1000000000 x) := h154 x hx
  have e36 : nI 6 * nI x + nI x = nI (6 * x + x) := by rw [nI_mulN, nI_add]
  have bz : ∀ b : Bool, (if bI b = 0 then some (nI 0, s) else some (nI 1, s)) = some (bI b, s) := by
    intro b
    cases b <;> rfl
  unfold fX12_tellName
  rw [if_neg (by rw [eq_ok (by omega) (by decide)]; omega), isDef_m hM' w hx hn, bd_ok, hd, bI_t, if_neg n1_0]
  dsimp only [lt, jn]
  have k8 : v = 0 ∨ v = 1 ∨ v = 2 ∨ v = 3 ∨ v = 4 ∨ v = 5 ∨ v = 6 := by omega
  rcases k8 with rfl | rfl | rfl | rfl | rfl | rfl | rfl
  · rw [if_pos n0_0, if_neg (by decide +kernel), if_neg (by decide +kernel), if_neg (by decide +kernel), if_neg (by decide +kernel), if_neg (by decide +kernel), if_neg (by decide +kernel), if_neg n1_0, if_pos rfl]
  · rw [if_neg n1_0, if_pos rfl, ra_ok _ _ hx (by decide), if_neg (by decide +kernel), h153 x hx, bz]
    rfl
  · rw [if_neg (by decide +kernel), if_neg (by decide +kernel), if_pos rfl, ra_ok _ _ hx (by decide), h154']
    by_cases h : 1000000000 ≤ fw G 1000000000 x
    · rw [if_pos (yle (by omega) h), if_neg (by decide +kernel), decide_eq_false (by omega)]; rfl
    · rw [if_neg (nle (by decide) (by omega) (by omega)), if_neg (by decide +kernel), decide_eq_true (by omega)]; rfl
  · rw [if_neg (by decide +kernel), if_neg (by decide +kernel), if_neg (by decide +kernel), if_pos rfl, ra_ok _ _ hx (by decide), if_neg (by decide +kernel), h155 x hx, bz]
    rfl
  · rw [if_neg (by decide +kernel), if_neg (by decide +kernel), if_neg (by decide +kernel), if_neg (by decide +kernel), if_pos rfl, e36, ra_ok _ _ e6 (by decide), if_neg (by decide +kernel), h156 _ e6, bz]
    rfl
  · rw [if_neg (by decide +kernel), if_neg (by decide +kernel), if_neg (by decide +kernel), if_neg (by decide +kernel), if_neg (by decide +kernel), if_pos rfl, e36, ra_ok _ _ e6 (by decide), if_neg (by decide +kernel), h157 _ e6, bz]
    rfl
  · rw [if_neg (by decide +kernel), if_neg (by decide +kernel), if_neg (by decide +kernel), if_neg (by decide +kernel), if_neg (by decide +kernel), if_neg (by decide +kernel), if_pos rfl, prodOf_e hMG w (by omega) (by omega), bd_ok]
    rfl
theorem tell_7 (hM : MLd G s) {x n : Nat} (hx : x < 6) : fX12_tellName n (nI x) (nI 7) s = some (if fw G 1000000000 x = 1000000000 then -9 else nI (fw G 1000000000 x), s) := by
  have hf2 : fw G 1000000000 x ≤ 1000000000 := fI_le _ _ _ _
  have h154' : s.1 154 x = nI (fw G 1000000000 x) := hM.2.2.1 x hx
  unfold fX12_tellName
  rw [if_pos rfl, ra_ok _ _ hx (by decide), ra_ok _ _ hx (by decide), h154', ite_some]
  simp (disch := omega) only [eq_ok]
/-- what the class tells of a nonterminal -/
theorem name_c (hX : XG G s) (w : WG G) {x v : Nat} (hx : x < 6) (hv : v < 8) : fX11_nonterminal (nI x) (nI v) s = some (if v = 0 then bI (dfb G x) else if v = 1 then bI (decide (fw G 1000000 x = 0)) else if v = 2 then bI (decide (fw G 1000000 x < 1000000)) else if v = 3 then bI (rI G 6 x) else if v = 4 then bI (clB false G (6 * x + x)) else if v = 5 then bI (clB true G (6 * x + x)) else if v = 6 then nI (cntP G x G.1) else if fw G 1000000 x < 1000000 then nI (fw G 1000000 x) else -9, s) := by
  obtain ⟨hg, hCG, ⟨h8, _, h77, _, h78, h79, _⟩, _⟩ := hX
  have hf1 : fw G 1000000 x ≤ 1000000 := fI_le _ _ _ _
  have ef : fX9_fewest (nI x) s = some (nI (fw G 1000000 x), s) := by
    unfold fX9_fewest
    simp (disch := omega) only [ra_ok]
    rw [h8 x hx]
  obtain ⟨B, E, eB, eE, hr⟩ := begin_c hCG hx
  have hcnt := cnt_rng hr
  have hr1 := hr.1
  unfold fX11_nonterminal
  rw [if_neg (nlt0 (by omega)), if_neg (nle (by decide) (by omega) hx), if_neg (nlt0 (by omega)), if_pos (yle (by decide) (show v ≤ 7 by omega))]
  have k8 : v = 0 ∨ v = 1 ∨ v = 2 ∨ v = 3 ∨ v = 4 ∨ v = 5 ∨ v = 6 ∨ v = 7 := by omega
  rcases k8 with rfl | rfl | rfl | rfl | rfl | rfl | rfl | rfl
  · rw [if_pos rfl, lt_def, defined_c hCG, bd_ok, bit_c _ hx, bd_ok]; rfl
  · rw [if_neg (by decide +kernel), if_pos rfl, ef, bd_ok]
    by_cases h : fw G 1000000 x = 0
    · rw [h, if_pos n0_0]; rfl
    · rw [if_neg (by rw [eq0_ok (by omega)]; exact h), decide_eq_false h]; rfl
  · rw [if_neg (by decide +kernel), if_neg (by decide +kernel), if_pos rfl, ef, bd_ok]
    by_cases h : fw G 1000000 x < 1000000
    · rw [if_neg (nle (by decide) (by omega) h), decide_eq_true h]; rfl
    · rw [if_pos (yle (by omega) (by omega)), decide_eq_false h]; rfl
  · rw [if_neg (by decide +kernel), if_neg (by decide +kernel), if_neg (by decide +kernel), if_pos rfl, show fX9_reachable s = some (s.1 7 7, s) from rfl, bd_ok, h77, bit_c _ hx, bd_ok]; rfl
  · rw [if_neg (by decide +kernel), if_neg (by decide +kernel), if_neg (by decide +kernel), if_neg (by decide +kernel), if_pos rfl, show fX9_recursive s = some (s.1 7 8, s) from rfl, bd_ok, h78, bit_c _ hx, bd_ok]; rfl
  · rw [if_neg (by decide +kernel), if_neg (by decide +kernel), if_neg (by decide +kernel), if_neg (by decide +kernel), if_neg (by decide +kernel), if_pos rfl, show fX9_cyclic s = some (s.1 7 9, s) from rfl, bd_ok, h79, bit_c _ hx, bd_ok]; rfl
  · rw [if_neg (by decide +kernel), if_neg (by decide +kernel), if_neg (by decide +kernel), if_neg (by decide +kernel), if_neg (by decide +kernel), if_neg (by decide +kernel), if_pos rfl, lt_def, eE, bd_ok, lt_def, eB, bd_ok, nI_subN hr1, ← hcnt]; rfl
  · rw [if_neg (by decide +kernel), if_neg (by decide +kernel), if_neg (by decide +kernel), if_neg (by decide +kernel), if_neg (by decide +kernel), if_neg (by decide +kernel), if_neg (by decide +kernel), ef, bd_ok, ef, bd_ok]
    by_cases h : fw G 1000000 x < 1000000
    · rw [if_neg (nle (by decide) (by omega) h)]
      simp [h]
    · rw [if_pos (yle (by omega) (by omega))]
      simp [h]
/-- and so does the reference -/
theorem name_m (hM : MLd G s) (w : WG G) {x v n : Nat} (hx : x < 6) (hv : v < 8) (hn : 30 ≤ n) : fX12_tellName n (nI x) (nI v) s = some (if v = 0 then bI (dfb G x) else if v = 1 then bI (decide (fw G 1000000 x = 0)) else if v = 2 then bI (decide (fw G 1000000 x < 1000000)) else if v = 3 then bI (rI G 6 x) else if v = 4 then bI (clB false G (6 * x + x)) else if v = 5 then bI (clB true G (6 * x + x)) else if v = 6 then nI (cntP G x G.1) else if fw G 1000000 x < 1000000 then nI (fw G 1000000 x) else -9, s) := by
  have tw := fw_two w (K1 := 1000000) (K2 := 1000000000) (by decide) (by decide) x
  have hf1 : fw G 1000000 x ≤ 1000000 := fI_le _ _ _ _
  have hf2 : fw G 1000000000 x ≤ 1000000000 := fI_le _ _ _ _
  unfold two at tw
  by_cases h7 : v = 7
  · subst h7
    rw [tell_7 hM hx]
    simp only [show ¬ (7 = 0) by decide, show ¬ (7 = 1) by decide, show ¬ (7 = 2) by decide, show ¬ (7 = 3) by decide, show ¬ (7 = 4) by decide, show ¬ (7 = 5) by decide, show ¬ (7 = 6) by decide, if_false]
    rcases tw with ⟨t1, t2⟩ | ⟨t1, t2⟩
    · rw [if_pos t2, if_neg (by omega)]
    · rw [if_neg (by omega), if_pos (by omega), t1]
  · have eE0 : eI G 6 x = decide (fw G 1000000 x = 0) := eI_fI (by decide) 6 x
    cases hd : dfb G x with
    | true =>
      rw [tell_d w hM hx (by omega) hd hn, eE0]
      have e2 : decide (fw G 1000000000 x < 1000000000) = decide (fw G 1000000 x < 1000000) := by
        rw [decide_eq_decide]
        omega
      rw [e2]
      have k8 : v = 0 ∨ v = 1 ∨ v = 2 ∨ v = 3 ∨ v = 4 ∨ v = 5 ∨ v = 6 := by omega
      rcases k8 with rfl | rfl | rfl | rfl | rfl | rfl | rfl <;> rfl
    | false =>
      rw [tell_u w hM hx (by omega) hd hn]
      have hu : fw G 1000000 x = 1000000 := und_fI hd 1000000 6
      have hc : cntP G x G.1 = 0 := by
        unfold dfb at hd
        rw [decide_eq_false_iff_not] at hd
        omega
      have hcl : ∀ c, clB c G (6 * x + x) = false := fun c => und_cl (fun y hy => und_tA w hd hy G.1 (Nat.le_refl _)) 6 (Nat.le_refl _) x hx
      rw [hu, hc, hcl, hcl, und_rI w hd 6]
      have k8 : v = 0 ∨ v = 1 ∨ v = 2 ∨ v = 3 ∨ v = 4 ∨ v = 5 ∨ v = 6 := by omega
      rcases k8 with rfl | rfl | rfl | rfl | rfl | rfl | rfl <;> rfl
theorem q_nonterminal (hX : XG G s) (hK : GK G) (hM : MLd G s) {n : Nat} (hn : 30 ≤ n) (a b : Int32) : ∃ r, fX11_nonterminal a b s = some (r, s) ∧ fX12_nonterminal n a b s = some (r, s) := by
  have w := hK.1
  rcases rge a 5 (by decide) with ⟨x, hx, rfl⟩ | h
  · rcases rge b 7 (by decide) with ⟨v, hv, rfl⟩ | h
    · refine ⟨_, name_c hX w (by omega) (by omega), ?_⟩
      unfold fX12_nonterminal
      rw [in_t hx (by decide), bd_ok, if_neg n1_0, in_t hv (by decide), bd_ok, if_neg n1_0, name_m hM w (by omega) (by omega) hn, bd_ok]
    · unfold fX11_nonterminal fX12_nonterminal
      rw [in_t hx (by decide), bd_ok, if_neg n1_0, if_neg (nlt0 (by omega)), if_neg (nle (by decide) (by omega) (show x < 6 by omega)), in_f h, bd_ok, if_pos n0_0]
      rcases rge_cases h with h3 | ⟨h3, h4⟩
      · rw [if_pos h3]; exact ⟨_, rfl, rfl⟩
      · rw [if_neg (Int32.not_lt.mpr h3), if_neg (Int32.not_le.mpr h4)]; exact ⟨_, rfl, rfl⟩
  · unfold fX11_nonterminal fX12_nonterminal
    rw [in_f h, bd_ok, if_pos n0_0]
    rcases rge_cases h with h3 | ⟨h3, h4⟩
    · rw [if_pos h3]; exact ⟨_, rfl, rfl⟩
    · rw [if_neg (Int32.not_lt.mpr h3), if_pos (gt_ge (by decide) (by decide) h4 (by decide))]; exact ⟨_, rfl, rfl⟩
end
