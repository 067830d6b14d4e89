/-! ===== the start: two new objects ===== -/
theorem lb_of {v : Int64} {k : Nat} (hk : k < 64) (h : ∀ c, c < 64 → (tb v c = true ↔ c = k)) : LB v (fun c => c = k) := by
  intro c
  rcases Nat.lt_or_ge c 64 with hc | hc
  · exact h c hc
  · rw [tb_ge _ hc]
    exact ⟨fun h => (by cases h), fun h => (by omega)⟩
theorem wst_one {s : PH} {y i : Nat} (hy : y < 5) (h0 : s.2.1 (wId i 1) 0 = 0) (h1 : ∀ x, x < 5 → s.2.1 (wId i 1) (x + 1) = if x = y then 1 else 0) (o1 : ∀ c, c < 64 → (tb (s.2.1 (wId i 0) 1) c = true ↔ c = y + 1)) (o2 : ∀ c, c < 64 → (tb (s.2.1 (wId i 0) 2) c = true ↔ c = y + 1)) : WSt (fun l => l = [y]) i s := by
  have l1 : LB 1 (fun c => c = 0) := fun c => by rw [tb_1, decide_eq_true_eq]
  have hk : ∀ k c, 1 ≤ k → (cd (ctS k (fun l => l = [y])) c ↔ c = y + 1) := by
    intro k c hk
    obtain ⟨k', rfl⟩ : ∃ k', k = k' + 1 := ⟨k - 1, by omega⟩
    constructor
    · rintro ⟨_, ⟨a, rfl, rfl⟩, rfl⟩
      simp [enc]
    · rintro rfl
      exact ⟨[y], ⟨[y], rfl, by simp⟩, rfl⟩
  refine ⟨?_, ?_, fun x hx => ?_, ?_, ?_⟩
  · rintro l rfl
    exact VL.one hy
  · rw [h0]
    refine LB.zero.of (fun c => ⟨fun h => h.elim, fun h => ?_⟩)
    exact absurd h.2 (by simp)
  · rw [h1 x hx]
    by_cases e : x = y
    · rw [if_pos e]
      refine l1.of (fun c => ⟨?_, ?_⟩)
      · rintro rfl
        exact ⟨[], by show x :: [] = [y]; rw [e], rfl⟩
      · rintro ⟨l, hl, rfl⟩
        have hl' : x :: l = [y] := hl
        injection hl' with _ e2
        rw [e2]
        rfl
    · rw [if_neg e]
      refine LB.zero.of (fun c => ⟨fun h => h.elim, ?_⟩)
      rintro ⟨l, hl, _⟩
      have hl' : x :: l = [y] := hl
      injection hl' with e1 _
      exact e e1
  · exact (lb_of (by omega) o1).of (fun c => (hk 2 c (by decide)).symm)
  · exact (lb_of (by omega) o2).of (fun c => (hk 1 c (by decide)).symm)
set_option maxRecDepth 100000 in
theorem s00_LW : LW s00 := by
  have l1 : LB 1 (fun c => c = 0) := fun c => by rw [tb_1, decide_eq_true_eq]
  have hk : ∀ k c, cd (ctS k L1) c ↔ c = 0 := by
    intro k c
    constructor
    · rintro ⟨_, ⟨a, rfl, rfl⟩, rfl⟩
      simp [enc]
    · rintro rfl
      exact ⟨[], ⟨[], rfl, by simp⟩, rfl⟩
  have e0 : s00.2.1 (wId 0 1) 0 = 1 := by decide +kernel
  have e1 : ∀ x, x < 5 → s00.2.1 (wId 0 1) (x + 1) = 0 := by decide +kernel
  have e2 : s00.2.1 (wId 0 0) 1 = 1 := by decide +kernel
  have e3 : s00.2.1 (wId 0 0) 2 = 1 := by decide +kernel
  refine ⟨⟨L1.vs, ?_, fun x hx => ?_, ?_, ?_⟩, fun y hy => ?_⟩
  · rw [e0]
    exact l1.of (fun c => ⟨fun h => ⟨h, rfl⟩, fun h => h.1⟩)
  · rw [e1 x hx]
    refine LB.zero.of (fun c => ⟨fun h => h.elim, ?_⟩)
    rintro ⟨l, hl, _⟩
    have hl' : x :: l = [] := hl
    cases hl'
  · rw [e2]
    exact l1.of (fun c => (hk 2 c).symm)
  · rw [e3]
    exact l1.of (fun c => (hk 1 c).symm)
  · have : y = 0 ∨ y = 1 ∨ y = 2 ∨ y = 3 ∨ y = 4 := by omega
    rcases this with rfl | rfl | rfl | rfl | rfl
    · exact wst_one (by decide) (by decide +kernel) (by decide +kernel) (by decide +kernel) (by decide +kernel)
    · exact wst_one (by decide) (by decide +kernel) (by decide +kernel) (by decide +kernel) (by decide +kernel)
    · exact wst_one (by decide) (by decide +kernel) (by decide +kernel) (by decide +kernel) (by decide +kernel)
    · exact wst_one (by decide) (by decide +kernel) (by decide +kernel) (by decide +kernel) (by decide +kernel)
    · exact wst_one (by decide) (by decide +kernel) (by decide +kernel) (by decide +kernel) (by decide +kernel)
set_option maxRecDepth 100000 in
theorem s00_CG : CG G00 5 s00 := by
  have a1 : s00.1 (gId 5 0) 5 = nI 0 := by decide +kernel
  have a2 : s00.1 (gId 5 0) 6 = nI 0 := by decide +kernel
  have a3 : ∀ x, x < 6 → s00.1 (gId 5 4) x = nI 0 := by decide +kernel
  have a4 : ∀ x, x < 6 → s00.1 (gId 5 5) x = nI 0 := by decide +kernel
  refine ⟨⟨a1, ?_⟩, fun p hp => absurd hp (Nat.not_lt_zero p), fun x hx => ⟨0, 0, a3 x hx, a4 x hx, Nat.le_refl _, Nat.le_refl _, fun p hp => absurd hp (Nat.not_lt_zero p)⟩⟩
  rw [a2, mk_congr (b := fun _ => false) (fun x _ => dfb_0), mk_no]
set_option maxRecDepth 100000 in
theorem s00_EN : EN s00 := by
  have key : ∀ b, b < 9 → ∀ a, a < 9 → a ≤ b → s00.1 140 (9 * a + b) = nI (6 * (9 * a + b)) := by decide +kernel
  exact fun a b h1 h2 => key b h2 a (by omega) h1
/-- the first grammar -/
def G1 : Gr := addP G00 0
theorem G1_wg : WG G1 := by
  refine ⟨⟨by decide, by decide⟩, fun p hp => ?_, fun p i hp hi => ?_, fun p q r _ _ _ _ => ?_⟩
  · have hp' : p < 1 := hp
    show (if p = 0 then 0 else 0) < 6 ∧ (if p = 0 then 0 else 0) ≤ 5
    split <;> omega
  · have hp' : p < 1 := hp
    have hi' : i < (if p = 0 then 0 else 0) := hi
    rw [if_pos (by omega)] at hi'
    omega
  · show (if q = 0 then 0 else 0) = (if p = 0 then 0 else 0)
    split <;> split <;> rfl
set_option maxRecDepth 100000 in
theorem rest_c {n : Nat} (hn : 2000 ≤ n) : wp (fX11_rest n s00) (fun _ t => Fr (fun q => isG 5 q ∨ isS q) s00 t ∧ XG G1 t ∧ t.1 24 5 = nI 0 ∧ t.1 24 6 = nI 0 ∧ t.1 29 1 = nI 0 ∧ t.2.2 0 8 = 5) := by
  unfold fX11_rest
  have e5 : s00.2.2 0 8 = 5 := by decide +kernel
  rw [lt_def, e5]
  refine wp_call (open_c (x := 0) s00_CG (by decide) (by decide) (fun h => by rw [dfb_0] at h; cases h)) (fun r t ⟨_, f, hG⟩ => ?_)
  have e5' : t.2.2 0 8 = 5 := by rw [(f 0 (by unfold isG; omega)).2.2]; exact e5
  have hG' : CG G1 5 t := hG
  refine wp_call (study_c (G := G1) (by rw [e5']; exact hG') (by rw [e5']; decide) G1_wg (s00_LW.fr f (fun q h1 h2 => by unfold isG; omega)) hn) (fun _ t2 ⟨f2, ⟨k1, k2, k3, k4, k5⟩, _⟩ => ?_)
  have e52 : t2.2.2 0 8 = 5 := by rw [(f2 0 (by unfold isS isT isP; omega)).2.2]; exact e5'
  exact wp_some ⟨(f.wk (fun q hq => Or.inl hq)).tr (f2.wk (fun q hq => Or.inr hq)), ⟨by rw [e52]; decide, by rw [e52]; exact hG'.fr f2 (gIS (by decide)), k1, k2⟩, k3, k4, k5, e52⟩
theorem mgH_hi (σ : PH) (q : Nat) (h : 148 ≤ q) : (mgH σ).1 q = sMI.getD (q - 148) (fun _ => 0) := by
  show (if q < 148 then _ else _) = _
  rw [if_neg (by omega)]
set_option maxRecDepth 100000 in
theorem pureClaim : PureClaim := by
  intro L xs hL
  obtain ⟨_, s1, e1, f1, hX1, z5, z6, z29, z08⟩ := rest_c (n := 30000) (by decide)
  have fm : Fr (fun q => 148 ≤ q) s1 (mgH s1) := fun q hq => mgH_lo s1 q (by omega)
  have hM0 : MG G1 ((mgH s1).1 149) := by
    rw [mgH_hi s1 149 (by decide)]
    refine ⟨by decide +kernel, fun p hp => ?_⟩
    have hp' : p < 1 := hp
    have ep : p = 0 := by omega
    subst ep
    refine ⟨by decide +kernel, by decide +kernel, fun i hi => ?_⟩
    have hi' : i < 0 := hi
    omega
  have hz : ∀ c, c < 216 → (mgH s1).1 163 c = nI 0 := by
    rw [mgH_hi s1 163 (by decide)]
    intro c _
    exact n0_0.symm
  obtain ⟨_, s2, e2, f2, hMLd, hFOK, hOOK⟩ := lays_e hM0 G1_wg hz (n := 30000) (by decide)
  have hK : GK G1 := ⟨G1_wg, hFOK, hOOK⟩
  have w := hK.1
  have F : Fr (fun q => (isG 5 q ∨ isS q) ∨ 148 ≤ q) s00 s2 := ((f1.wk (fun q hq => Or.inl hq)).tr (fm.wk (fun q hq => Or.inr hq))).tr (f2.wk (fun q hq => Or.inr (by unfold isL at hq; omega)))
  have lo : ∀ q, q < 148 → s2.1 q = s1.1 q := fun q hq => by rw [(f2 q (by unfold isL; omega)).1]; exact (mgH_lo s1 q hq).1
  have h148 : ∀ k, s2.1 148 k = sMI.getD 0 (fun _ => 0) k := fun k => by rw [(f2 148 (by unfold isL; omega)).1, mgH_hi s1 148 (by decide)]
  have b1 : s2.1 1 1 = nI 0 := by rw [(F 1 (by unfold isG isS isT isP; omega)).1]; decide +kernel
  have b3 : s2.1 3 2 = -9 := by rw [(F 3 (by unfold isG isS isT isP; omega)).1]; decide +kernel
  have b5 : s2.1 5 1 = nI 0 := by rw [(F 5 (by unfold isG isS isT isP; omega)).1]; decide +kernel
  have b21 : s2.1 21 3 = nI 0 := by rw [(F 21 (by unfold isG isS isT isP; omega)).1]; decide +kernel
  have c4 : s2.1 148 4 = nI 0 := by rw [h148]; decide +kernel
  have c5 : s2.1 148 5 = -9 := by rw [h148]; decide +kernel
  have c2 : s2.1 148 2 = nI 0 := by rw [h148]; decide +kernel
  have c7 : s2.1 148 7 = nI 0 := by rw [h148]; decide +kernel
  have hX2 : XG G1 s2 := (hX1.fr w fm (fun q hq => by omega)).fr w f2 (fun q hq => by unfold isL; omega)
  have i0 : s2.2.2 0 8 = 5 := by
    rw [(f2 0 (by unfold isL; omega)).2.2, (fm 0 (by omega)).2.2]
    exact z08
  have i3 : s2.2.2 3 1 = 0 := by rw [(F 3 (by unfold isG isS isT isP; omega)).2.2]; decide +kernel
  have i6 : ∀ i, i < 4 → s2.2.2 6 i = i + 1 := by
    rw [(F 6 (by unfold isG isS isT isP; omega)).2.2]
    decide +kernel
  have hINV : INV s2 := by
    refine ⟨G1, 0, fun _ => 0, hK, hX2, hMLd, ⟨by decide, b1, c4, fun i hi => absurd hi (Nat.not_lt_zero i)⟩, by rw [b3, c5], ⟨0, by decide, b21, c7, fun i hi => absurd hi (Nat.not_lt_zero i)⟩, ⟨0, by decide, b5, c2, fun i hi => absurd hi (Nat.not_lt_zero i)⟩, ?_, s00_EN.fr F (by unfold isG isS isT isP; omega), Or.inl ⟨by rw [lo 24 (by decide)]; exact z5, by rw [lo 24 (by decide)]; exact z6⟩, Or.inl (by rw [lo 29 (by decide)]; exact z29)⟩
    refine ⟨by rw [i0]; decide, by rw [i3]; decide, fun i hi => by rw [i6 i hi]; omega, by rw [i0, i3]; decide, fun i hi => ?_, fun i j hi hj hij => by rw [i6 i hi, i6 j hj]; omega⟩
    rw [i6 i hi, i0, i3]
    omega
  obtain ⟨u, s3, e3, _⟩ := law_loop (xs := xs) hL (Nat.le_refl 30000) hINV
  exact ⟨30000, s1, s2, s3, e1, by unfold fX12_rest; rw [e2]; rfl, e3⟩
