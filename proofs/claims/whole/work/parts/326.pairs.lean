/-! ===== BOTH: the same questions ===== -/
def XG (G : Gr) (s : PH) : Prop := s.2.2 0 8 < 6 ∧ CG G (s.2.2 0 8) s ∧ CTr G s ∧ CFo G s
def GK (G : Gr) : Prop := WG G ∧ FOK G (FG G) ∧ OOK G (FG G) (OG G)
theorem lez_ok {a : Nat} (ha : a < 2147483648) : (nI a ≤ 0) = (a ≤ 0) := by rw [← nI_0]; exact le_ok ha (by decide)
/-- a number is one of 0 to k, or it isn't -/
theorem rge (v : Int32) (k : Nat) (hk : k < 2147483648) : (∃ x, x ≤ k ∧ v = nI x) ∨ ¬ (0 ≤ v ∧ v ≤ nI k) := by
  rcases Classical.em (0 ≤ v ∧ v ≤ nI k) with ⟨h1, h2⟩ | h
  · left
    have e : v = nI v.toInt.toNat := by
      unfold nI
      apply Int32.toInt_inj.mp
      have h3 : 0 ≤ v.toInt := by
        have := Int32.le_iff_toInt_le.mp h1
        simpa using this
      have h4 := Int32.toInt_lt v
      rw [Int32.toInt_ofNat_of_lt (by omega)]
      omega
    refine ⟨v.toInt.toNat, ?_, e⟩
    have h3 := Int32.le_iff_toInt_le.mp h2
    rw [nI_toInt hk] at h3
    omega
  · exact Or.inr h
theorem neg_lo {v : Int32} (h : v < 0) (k : Nat) : ¬ (0 ≤ v ∧ v ≤ nI k) := fun h' => absurd h (Int32.not_lt.mpr h'.1)
theorem rge_cases {v : Int32} {k : Nat} (h : ¬ (0 ≤ v ∧ v ≤ nI k)) : v < 0 ∨ (0 ≤ v ∧ nI k < v) := by
  rcases Classical.em (v < 0) with h1 | h1
  · exact Or.inl h1
  · have h2 : 0 ≤ v := Int32.not_lt.mp h1
    exact Or.inr ⟨h2, Int32.not_le.mp (fun h3 => h ⟨h2, h3⟩)⟩
theorem in0_e (v : Int32) (k : Nat) (s : PH) : fX12_in v (nI 0) (nI k) s = some (if 0 ≤ v ∧ v ≤ nI k then nI 1 else nI 0, s) := by
  rw [in_e, show nI 0 = (0 : Int32) from n0_0]
theorem in_t {x k : Nat} (hx : x ≤ k) (hk : k < 2147483648) (s : PH) : fX12_in (nI x) (nI 0) (nI k) s = some (nI 1, s) := by
  rw [in0_e, if_pos ⟨nI_pos' (by omega), by rw [le_ok (by omega) hk]; exact hx⟩]
theorem in_f {v : Int32} {k : Nat} (h : ¬ (0 ≤ v ∧ v ≤ nI k)) (s : PH) : fX12_in v (nI 0) (nI k) s = some (nI 0, s) := by
  rw [in0_e, if_neg h]
section
variable {G : Gr} {s : PH}
theorem has_b (hX : XG G s) (w : WG G) (hM : MLd G s) (v : Int32) : (∃ p, p < G.1 ∧ v = nI p ∧ fX4_has (s.2.2 0 8) v s = some (nI 1, s) ∧ fX12_isProduction v s = some (nI 1, s)) ∨ (fX4_has (s.2.2 0 8) v s = some (nI 0, s) ∧ fX12_isProduction v s = some (nI 0, s)) := by
  have h1 := w.1.1
  have h16 := w.1.2
  unfold fX4_has fX12_isProduction
  rw [hX.2.1.1.1, many_e hM.1, bd_ok, nI_subN h1]
  rcases rge v (G.1 - 1) (by omega) with ⟨p, hp, rfl⟩ | h
  · left
    refine ⟨p, by omega, rfl, ?_, ?_⟩
    · simp (disch := omega) only [lt0_ok, if_false, le_ok, if_neg]
    · rw [in_t hp (by omega), bd_ok, rz1]
  · right
    refine ⟨?_, ?_⟩
    · rcases rge_cases h with h2 | ⟨h2, h3⟩
      · rw [if_pos h2]
      · rw [if_neg (Int32.not_lt.mpr h2), if_pos]
        have h4 := Int32.lt_iff_toInt_lt.mp h3
        rw [nI_toInt (by omega)] at h4
        apply Int32.le_iff_toInt_le.mpr
        rw [nI_toInt (by omega)]
        omega
    · rw [in_f h, bd_ok, rz0]
theorem isProd_t (hM : MLd G s) (w : WG G) {p : Nat} (hp : p < G.1) : fX12_isProduction (nI p) s = some (nI 1, s) := by
  have h16 := w.1.2
  unfold fX12_isProduction
  rw [many_e hM.1, bd_ok, nI_subN w.1.1, in_t (by omega) (by omega), bd_ok, rz1]
theorem isDef_m (hM : MLd G s) (w : WG G) {x n : Nat} (hx : x < 6) (hn : 30 ≤ n) : fX12_isDefined n (nI x) s = some (bI (dfb G x), s) := by
  unfold fX12_isDefined
  have hc := cntP_le G x G.1
  have h16 := w.1.2
  rw [in_t (show x ≤ 5 by omega) (by decide), bd_ok, if_neg n1_0, prodOf_e hM.1 w (by omega) (by omega), bd_ok]
  unfold dfb
  simp (disch := omega) only [lez_ok]
  by_cases h : 0 < cntP G x G.1
  · rw [if_neg (by omega), decide_eq_true h]; rfl
  · rw [if_pos (by omega), decide_eq_false h]; rfl
theorem isDef_c (hX : XG G s) {x : Nat} (hx : x < 6) : fX11_isDefined (nI x) s = some (bI (dfb G x), s) := by
  unfold fX11_isDefined
  simp (disch := omega) only [lt0_ok, if_false, le_ok, if_neg, lt_def, defined_c hX.2.1, bd_ok, bit_c, bI_1]
  cases dfb G x <;> rfl
theorem isDef_b (hX : XG G s) (w : WG G) (hM : MLd G s) {n : Nat} (hn : 30 ≤ n) (v : Int32) : (∃ x, x < 6 ∧ v = nI x ∧ dfb G x = true ∧ fX11_isDefined v s = some (nI 1, s) ∧ fX12_isDefined n v s = some (nI 1, s)) ∨ (fX11_isDefined v s = some (nI 0, s) ∧ fX12_isDefined n v s = some (nI 0, s)) := by
  rcases rge v 5 (by decide) with ⟨x, hx, rfl⟩ | h
  · rw [isDef_c hX (by omega), isDef_m hM w (by omega) hn]
    cases hd : dfb G x with
    | true => exact Or.inl ⟨x, by omega, rfl, hd, rfl, rfl⟩
    | false => exact Or.inr ⟨rfl, rfl⟩
  · right
    constructor
    · unfold fX11_isDefined
      rcases rge_cases h with h2 | ⟨h2, h3⟩
      · rw [if_pos h2]
      · rw [if_neg (Int32.not_lt.mpr h2), if_pos]
        have h4 := Int32.lt_iff_toInt_lt.mp h3
        rw [nI_toInt (by omega)] at h4
        apply Int32.le_iff_toInt_le.mpr
        rw [nI_toInt (by omega)]
        omega
    · unfold fX12_isDefined
      rw [in_f h, bd_ok, if_pos n0_0]
theorem isLook_t {k : Nat} (hk : k < 4) : fX11_isLookahead (nI k) s = some (nI 1, s) ∧ fX12_isDepth (nI k) s = some (nI 1, s) := by
  constructor
  · unfold fX11_isLookahead
    simp (disch := omega) only [lt0_ok, if_false, lt_ok, if_neg]
  · unfold fX12_isDepth
    rw [in_t (show k ≤ 3 by omega) (by decide), bd_ok, rz1]
theorem isLook_b (v : Int32) : (∃ k, k < 4 ∧ v = nI k ∧ fX11_isLookahead v s = some (nI 1, s) ∧ fX12_isDepth v s = some (nI 1, s)) ∨ (fX11_isLookahead v s = some (nI 0, s) ∧ fX12_isDepth v s = some (nI 0, s)) := by
  rcases rge v 3 (by decide) with ⟨k, hk, rfl⟩ | h
  · have := isLook_t (s := s) (show k < 4 by omega)
    exact Or.inl ⟨k, by omega, rfl, this.1, this.2⟩
  · right
    constructor
    · unfold fX11_isLookahead
      rcases rge_cases h with h2 | ⟨h2, h3⟩
      · rw [if_pos h2]
      · rw [if_neg (Int32.not_lt.mpr h2), if_pos h3]
    · unfold fX12_isDepth
      rw [in_f h, bd_ok, rz0]
/-- the word of a number -/
def dec (c : Nat) : List Nat := if c = 0 then [] else if c < 6 then [c - 1] else if c < 36 then [c / 6 - 1, c % 6 - 1] else [c / 36 - 1, c / 6 % 6 - 1, c % 6 - 1]
theorem vw_iff {c : Nat} : vw c = true ↔ (c = 0 ∨ c < 6 ∨ (c < 36 ∧ ¬ c % 6 = 0) ∨ (¬ c % 6 = 0 ∧ ¬ c / 6 % 6 = 0)) := by
  unfold vw
  simp only [Bool.or_eq_true, Bool.and_eq_true, Bool.not_eq_true', decide_eq_true_eq, decide_eq_false_iff_not, or_assoc]
theorem dec_ok {c : Nat} (hc : c < 216) (h : vw c = true) : VL (dec c) ∧ enc (dec c) = c ∧ (dec c).length = lo c := by
  rw [vw_iff] at h
  unfold dec lo
  by_cases h0 : c = 0
  · rw [if_pos h0, if_pos h0]; exact ⟨VL.nil, by rw [h0]; rfl, rfl⟩
  · rw [if_neg h0, if_neg h0]
    by_cases h6 : c < 6
    · rw [if_pos h6, if_pos h6]
      exact ⟨VL.one (by omega), by simp only [enc]; omega, rfl⟩
    · rw [if_neg h6, if_neg h6]
      by_cases h36 : c < 36
      · rw [if_pos h36, if_pos h36]
        refine ⟨⟨by simp, fun x hx => ?_⟩, by simp only [enc]; omega, rfl⟩
        simp at hx
        omega
      · rw [if_neg h36, if_neg h36]
        refine ⟨⟨by simp, fun x hx => ?_⟩, by simp only [enc]; omega, rfl⟩
        simp at hx
        omega
theorem lo_pw {c k : Nat} (hc : c < 216) (hk : k < 4) : lo c ≤ k ↔ c < pw k := by
  have : k = 0 ∨ k = 1 ∨ k = 2 ∨ k = 3 := by omega
  unfold lo
  rcases this with rfl | rfl | rfl | rfl
  · show _ ↔ c < 1
    split
    · omega
    · split
      · omega
      · split <;> omega
  · show _ ↔ c < 6
    split
    · omega
    · split
      · omega
      · split <;> omega
  · show _ ↔ c < 36
    split
    · omega
    · split
      · omega
      · split <;> omega
  · show _ ↔ c < 216
    split
    · omega
    · split
      · omega
      · split <;> omega
theorem isWord_c {c k n : Nat} (hc : c < 216) (hk : k < 4) (hn : 10 ≤ n) : fX11_isWord n (nI c) (nI k) s = some (bI (vw c && decide (lo c ≤ k)), s) := by
  have hpl := (pw_pos k).2
  unfold fX11_isWord
  simp (disch := omega) only [(isLook_t (s := s) hk).1, bd_ok, if_neg n1_0, lt0_ok, if_false, ra_ok, lim_e, lt_ok, lt_def]
  by_cases hp : c < pw k
  · rw [if_pos hp, decide_eq_true ((lo_pw hc hk).mpr hp), Bool.and_true]
    have key : wp (loo3 (fun (recrec9 : Int32 → Int32 → PH → Option (Int32 × PH)) v6 v7 s8 => if nI 3 ≤ v7 then some (nI 1, s8) else if v6 ≤ 0 then some (nI 1, s8) else if v6 - v6 / nI 6 * nI 6 = 0 then some (nI 0, s8) else recrec9 (v6 / nI 6) (v7 + nI 1) s8) n (nI c) (nI 0) s) (fun r t => t = s ∧ r = bI (vw c)) := by
      refine wp_for3 3 (by omega) (fun j v t => t = s ∧ ((j = 0 ∧ v = nI c) ∨ (j = 1 ∧ v = nI (c / 6) ∧ c % 6 ≠ 0) ∨ (j = 2 ∧ v = nI (c / 36) ∧ c % 6 ≠ 0 ∧ c / 6 % 6 ≠ 0) ∨ (j = 3 ∧ c % 6 ≠ 0 ∧ c / 6 % 6 ≠ 0))) ?_ ?_ n 0 _ s (by omega) ⟨rfl, Or.inl ⟨rfl, rfl⟩⟩ (by omega)
      · rintro rec j v t hj ⟨rfl, hv⟩ ih
        rw [if_neg (by rw [le_ok (by decide) (by omega)]; omega)]
        have st : ∀ d, d < 216 → v = nI d → (d = 0 → vw c = true) → (d % 6 = 0 → ¬ d = 0 → vw c = false) → (¬ d % 6 = 0 → wp (rec (nI (d / 6)) (nI (j + 1)) t) (fun r t' => t' = t ∧ r = bI (vw c))) → wp (if v ≤ 0 then some (nI 1, t) else if v - v / nI 6 * nI 6 = 0 then some (nI 0, t) else rec (v / nI 6) (nI j + nI 1) t) (fun r t' => t' = t ∧ r = bI (vw c)) := by
          intro d hd e h1 h2 h3
          rw [e, pk_div (by omega) (by omega) (by omega), nI_mulN, nI_subN (by omega), nI_add]
          simp (disch := omega) only [lez_ok, eq0_ok]
          by_cases d0 : d = 0
          · rw [if_pos (by omega)]
            exact wp_some ⟨rfl, by rw [h1 d0]; rfl⟩
          · rw [if_neg (by omega)]
            by_cases d1 : d % 6 = 0
            · rw [if_pos (by omega)]
              exact wp_some ⟨rfl, by rw [h2 d1 d0]; rfl⟩
            · rw [if_neg (by omega)]
              exact h3 d1
        have vf : ¬ (c = 0 ∨ c < 6 ∨ (c < 36 ∧ ¬ c % 6 = 0) ∨ (¬ c % 6 = 0 ∧ ¬ c / 6 % 6 = 0)) → vw c = false := by
          intro h
          cases hb : vw c with
          | false => rfl
          | true => exact absurd (vw_iff.mp hb) h
        rcases hv with ⟨rfl, hv⟩ | ⟨rfl, hv, h1⟩ | ⟨rfl, hv, h1, h2⟩ | ⟨rfl, _⟩
        · refine st c hc hv (fun h => vw_iff.mpr (by omega)) (fun h1 h2 => vf (by omega)) (fun h => ih _ _ ⟨rfl, Or.inr (Or.inl ⟨rfl, rfl, h⟩)⟩)
        · refine st (c / 6) (by omega) hv (fun h => vw_iff.mpr (by omega)) (fun h2 h3 => vf (by omega)) (fun h => ih _ _ ⟨rfl, Or.inr (Or.inr (Or.inl ⟨rfl, ?_, h1, h⟩))⟩)
          rw [Nat.div_div_eq_div_mul]
        · refine st (c / 36) (by omega) hv (fun h => vw_iff.mpr (by omega)) (fun h2 h3 => by omega) (fun h => ih _ _ ⟨rfl, Or.inr (Or.inr (Or.inr ⟨rfl, h1, h2⟩))⟩)
        · omega
      · rintro rec v t ⟨rfl, hv⟩
        rw [if_pos (by decide +kernel)]
        have : vw c = true := vw_iff.mpr (by omega)
        exact wp_some ⟨rfl, by rw [this]; rfl⟩
    obtain ⟨r, t, e, rfl, rfl⟩ := key
    exact e
  · rw [if_neg hp, decide_eq_false (fun h => hp ((lo_pw hc hk).mp h)), Bool.and_false]
    rfl
theorem isWord_m {c k n : Nat} (hc : c < 216) (hk : k < 4) (hn : 300 ≤ n) : fX12_isWord n (nI c) (nI k) s = some (bI (vw c && decide (lo c ≤ k)), s) := by
  have hlo := lo_le c
  unfold fX12_isWord
  rw [in_t (show c ≤ 215 by omega) (by decide), bd_ok, if_neg n1_0, lettersOf_e hc, bd_ok]
  simp only [lt_def, jn_def]
  have main : ∀ b : Bool, wp (loo3 (fun (recrec14 : Int32 → Int32 → PH → Option (Int32 × PH)) v11 v12 s13 => if v12 ≤ 0 then rz v11 s13 else if v11 = 0 then recrec14 (nI 0) (v12 / nI 6) s13 else if v12 - v12 / nI 6 * nI 6 ≤ 0 then recrec14 (nI 0) (v12 / nI 6) s13 else recrec14 (nI 1) (v12 / nI 6) s13) n (bI b) (nI c) s) (fun r t => t = s ∧ r = bI (vw c && b)) := by
    intro b
    refine wp_loo3 (fun v11 v12 t => t = s ∧ ∃ d b', d < 216 ∧ v12 = nI d ∧ v11 = bI b' ∧ ((d = c ∧ b' = b) ∨ (d = c / 6 ∧ c ≠ 0 ∧ b' = (b && !decide (c % 6 = 0))) ∨ (d = c / 36 ∧ c / 6 ≠ 0 ∧ b' = (b && !decide (c % 6 = 0) && !decide (c / 6 % 6 = 0))) ∨ (d = 0 ∧ c / 36 ≠ 0 ∧ b' = (b && !decide (c % 6 = 0) && !decide (c / 6 % 6 = 0))))) (fun _ v12 _ => v12.toNatClampNeg) ?_ n _ _ _ ⟨rfl, c, b, hc, rfl, rfl, Or.inl ⟨rfl, rfl⟩⟩ (by rw [cl_ok (by omega)]; omega)
    rintro rec v11 v12 t ⟨rfl, d, b', hd, rfl, rfl, hcase⟩ ih
    have e1 : nI d - nI d / nI 6 * nI 6 = nI (d % 6) := by
      rw [pk_div (by omega) (by omega) (by omega), nI_mulN, nI_subN (by omega), show d - d / 6 * 6 = d % 6 by omega]
    have e2 : nI d / nI 6 = nI (d / 6) := pk_div (by omega) (by omega) (by omega)
    rw [e1, e2]
    simp (disch := omega) only [lez_ok, bI_0]
    have vb : ∀ b1 : Bool, (b1 = true ↔ (c = 0 ∨ c < 6 ∨ (c < 36 ∧ ¬ c % 6 = 0) ∨ (¬ c % 6 = 0 ∧ ¬ c / 6 % 6 = 0))) → vw c = b1 := by
      intro b1 h
      cases hb : vw c with
      | true => exact (h.mpr (vw_iff.mp hb)).symm
      | false =>
        cases b1 with
        | false => rfl
        | true => rw [vw_iff.mpr (h.mp rfl)] at hb; cases hb
    by_cases d0 : d ≤ 0
    · rw [if_pos d0, rz_bI]
      refine wp_some ⟨rfl, ?_⟩
      rcases hcase with ⟨rfl, rfl⟩ | ⟨h1, h2, rfl⟩ | ⟨h1, h2, rfl⟩ | ⟨_, h2, rfl⟩
      · rw [vb true (by simp; omega), Bool.true_and]
      · rw [vb true (by simp; omega), decide_eq_false (by omega)]; simp
      · rw [vb (!decide (c % 6 = 0)) (by simp; omega), decide_eq_false (p := c / 6 % 6 = 0) (by omega)]
        cases b <;> simp
      · rw [vb (!decide (c % 6 = 0) && !decide (c / 6 % 6 = 0)) (by simp; omega)]
        cases b <;> simp
    · rw [if_neg d0]
      have go : ∀ b2 : Bool, b2 = (b' && !decide (d % 6 = 0)) → wp (rec (bI b2) (nI (d / 6)) t) (fun r t' => t' = t ∧ r = bI (vw c && b)) := by
        intro b2 eb
        refine ih _ _ _ ⟨rfl, d / 6, b2, by omega, rfl, rfl, ?_⟩ (by rw [cl_ok (by omega), cl_ok (by omega)]; omega)
        rcases hcase with ⟨rfl, rfl⟩ | ⟨h1, h2, rfl⟩ | ⟨h1, h2, rfl⟩ | ⟨h1, h2, rfl⟩
        · exact Or.inr (Or.inl ⟨rfl, by omega, eb⟩)
        · refine Or.inr (Or.inr (Or.inl ⟨by omega, by omega, ?_⟩))
          rw [eb, h1]
        · refine Or.inr (Or.inr (Or.inr ⟨by omega, by omega, ?_⟩))
          rw [eb, decide_eq_false (p := d % 6 = 0) (by omega)]
          simp
        · omega
      by_cases hb : b' = false
      · rw [if_pos hb]
        exact go false (by rw [hb]; rfl)
      · rw [if_neg hb]
        have hb' : b' = true := Bool.of_not_eq_false hb
        by_cases hm : d % 6 ≤ 0
        · rw [if_pos hm]
          exact go false (by rw [decide_eq_true (by omega), hb']; rfl)
        · rw [if_neg hm]
          exact go true (by rw [decide_eq_false (by omega), hb']; rfl)
  simp (disch := omega) only [lt_ok]
  by_cases hl : k < lo c
  · rw [if_pos hl, decide_eq_false (by omega)]
    obtain ⟨r, t, e, rfl, rfl⟩ := main false
    exact e
  · rw [if_neg hl, decide_eq_true (by omega)]
    obtain ⟨r, t, e, rfl, rfl⟩ := main true
    exact e
theorem isWord_b {k n : Nat} (hk : k < 4) (hn : 300 ≤ n) (v : Int32) : (∃ l, VL l ∧ l.length ≤ k ∧ v = nI (enc l) ∧ fX11_isWord n v (nI k) s = some (nI 1, s) ∧ fX12_isWord n v (nI k) s = some (nI 1, s)) ∨ (fX11_isWord n v (nI k) s = some (nI 0, s) ∧ fX12_isWord n v (nI k) s = some (nI 0, s)) := by
  rcases rge v 215 (by decide) with ⟨c, hc, rfl⟩ | h
  · rw [isWord_c (show c < 216 by omega) hk (by omega), isWord_m (show c < 216 by omega) hk hn]
    cases hb : (vw c && decide (lo c ≤ k)) with
    | false => exact Or.inr ⟨rfl, rfl⟩
    | true =>
      left
      rw [Bool.and_eq_true, decide_eq_true_eq] at hb
      obtain ⟨h1, h2, h3⟩ := dec_ok (show c < 216 by omega) hb.1
      exact ⟨dec c, h1, by omega, by rw [h2], rfl, rfl⟩
  · right
    constructor
    · unfold fX11_isWord
      rw [(isLook_t hk).1, bd_ok, if_neg n1_0]
      rcases rge_cases h with h2 | ⟨h2, h3⟩
      · rw [if_pos h2]
      · have hpl := (pw_pos k).2
        rw [if_neg (Int32.not_lt.mpr h2), ra_ok _ _ hk (by decide), lim_e hk, if_neg]
        have h4 := Int32.lt_iff_toInt_lt.mp h3
        rw [nI_toInt (by omega)] at h4
        intro h5
        have h6 := Int32.lt_iff_toInt_lt.mp h5
        rw [nI_toInt (by omega)] at h6
        omega
    · unfold fX12_isWord
      rw [in_f h, bd_ok, if_pos n0_0]
end
