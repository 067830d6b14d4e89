/-! ===== the class: questions to sets of words ===== -/
noncomputable def pB (P : Prop) : Bool := @decide P (Classical.propDecidable _)
theorem pB_t {P : Prop} : pB P = true ↔ P := by unfold pB; exact @decide_eq_true_iff _ (Classical.propDecidable _)
theorem pB_f {P : Prop} : pB P = false ↔ ¬ P := by
  constructor
  · intro h hp
    rw [pB_t.mpr hp] at h
    cases h
  · intro h
    cases hb : pB P with
    | false => rfl
    | true => exact absurd (pB_t.mp hb) h
theorem pB_i {P Q : Prop} (h : P ↔ Q) : pB P = pB Q := by rw [propext h]
theorem LB.nat {u : Int64} {P : Nat → Prop} (h : LB u P) (h40 : ∀ c, P c → c < 40) : ∃ m, m < 2 ^ 40 ∧ u = lN m ∧ ∀ c, m.testBit c = pB (P c) := by
  have e : ∀ c, u.toBitVec.toNat.testBit c = tb u c := fun c => rfl
  refine ⟨u.toBitVec.toNat, ?_, ?_, fun c => ?_⟩
  · apply Nat.lt_pow_two_of_testBit
    intro i hi
    rw [e]
    cases hb : tb u i with
    | false => rfl
    | true =>
      have := h40 i ((h i).mp hb)
      omega
  · unfold lN
    rw [← Int64.toBitVec_inj]
    simp
  · rw [e]
    cases hb : tb u c with
    | false => exact (pB_f.mpr (fun hp => by rw [(h c).mpr hp] at hb; cases hb)).symm
    | true => exact (pB_t.mpr ((h c).mp hb)).symm
theorem cn_zero {P : Nat → Bool} : ∀ n, (∀ k, k < n → P k = false) → cn P n = 0
  | 0, _ => rfl
  | n + 1, h => by
    have e1 : cn P (n + 1) = cn P n + if P n = true then 1 else 0 := rfl
    rw [e1, cn_zero n (fun k hk => h k (by omega)), h n (by omega)]
    rfl
theorem bitCountL {u : Int64} {P : Nat → Prop} (h : LB u P) (h40 : ∀ c, P c → c < 40) (s : PH) : fJ13_bitCount_95d88 u s = some (nI (cn (fun c => pB (P c)) 40), s) := by
  obtain ⟨m, h1, h2, h3⟩ := h.nat h40
  rw [h2, bitCount_c h1, cn_congr 40 (fun c _ => h3 c)]
theorem lim_e {k : Nat} (hk : k < 4) : lim k = nI (pw k) := by
  have : ∀ k : Fin 4, lim k.val = nI (pw k.val) := by decide +kernel
  exact this ⟨k, hk⟩
theorem ct3 {W : WLs} (h : VS W) : ctS 3 W = W := by
  funext l
  apply propext
  constructor
  · rintro ⟨a, ha, rfl⟩
    rw [List.take_of_length_le (h a ha).1]; exact ha
  · intro hl
    exact ⟨l, hl, by rw [List.take_of_length_le (h l hl).1]⟩
theorem ctS.vs {W : WLs} (h : VS W) {k : Nat} (hk : k ≤ 3) : VS (ctS k W) := by
  rintro _ ⟨a, ha, rfl⟩
  exact VL.take k (h a ha).2 hk
theorem cd_l {W : WLs} (h : VS W) {l : List Nat} (hl : VL l) : cd W (enc l) ↔ W l := by
  constructor
  · rintro ⟨l', h1, e⟩
    rw [← enc_inj (h l' h1) hl e]; exact h1
  · intro h1; exact ⟨l, h1, rfl⟩
theorem ct0 {W : WLs} {l : List Nat} : ctS 0 W l ↔ l = [] ∧ ∃ a, W a := by
  constructor
  · rintro ⟨a, ha, rfl⟩; exact ⟨by simp, a, ha⟩
  · rintro ⟨rfl, a, ha⟩; exact ⟨a, ha, by simp⟩
/-- one row of the rests, by a word -/
theorem WSt.r0 {W : WLs} {i : Nat} {s : PH} (h : WSt W i s) : tb (s.2.1 (wId i 1) 0) 0 = true ↔ W [] := by
  rw [h.2.1]
  exact ⟨fun h => h.2, fun h => ⟨rfl, h⟩⟩
theorem WSt.rx {W : WLs} {i : Nat} {s : PH} (h : WSt W i s) {x : Nat} {l : List Nat} (hx : x < 5) (hl : VL (x :: l)) : tb (s.2.1 (wId i 1) (x + 1)) (enc l) = true ↔ W (x :: l) := by
  rw [h.2.2.1 x hx]
  have hl' : VL l := ⟨Nat.le_trans (Nat.le_succ _) hl.1, fun y hy => hl.2 y (by simp [hy])⟩
  constructor
  · rintro ⟨l2, h2, e⟩
    have hl2 : VL l2 := ⟨Nat.le_trans (Nat.le_succ _) (h.1 _ h2).1, fun y hy => (h.1 _ h2).2 y (by simp [hy])⟩
    rw [← enc_inj hl2 hl' e]
    exact h2
  · intro h2; exact ⟨l, h2, rfl⟩
theorem PB.b {P : Prop} (b : Bool) (h : b = true ↔ P) : PB (if b = false then nI 0 else nI 1) P := by
  cases b with
  | false => exact PB.f (fun hp => by have := h.mpr hp; cases this)
  | true => exact PB.t (h.mp rfl)
theorem ite_some {α : Type} {c : Prop} [Decidable c] (a b : α) (s : PH) : (if c then some (a, s) else some (b, s)) = some (if c then a else b, s) := by
  by_cases h : c
  · rw [if_pos h, if_pos h]
  · rw [if_neg h, if_neg h]
theorem has_c {W : WLs} {i : Nat} {s : PH} (h : WSt W i s) {l : List Nat} {k : Nat} (hl : VL l) (hk : k < 4) (hlk : l.length ≤ k) : ∃ r, fX10_has i (nI (enc l)) (nI k) s = some (r, s) ∧ PB r (ctS k W l) := by
  have h216 := enc_lt hl
  have hpw : enc l < pw k := by
    rcases hl.c with rfl | ⟨x, hx, rfl⟩ | ⟨x, y, hx, hy, rfl⟩ | ⟨x, y, z, hx, hy, hz, rfl⟩ <;> simp only [enc, List.length] at * <;> unfold pw
    · split
      · omega
      · split
        · omega
        · split <;> omega
    · rw [if_neg (by omega)]
      split
      · omega
      · split <;> omega
    · rw [if_neg (by omega), if_neg (by omega)]
      split <;> omega
    · rw [if_neg (by omega), if_neg (by omega), if_neg (by omega)]; omega
  have hpl := (pw_pos k).2
  have k4 : k = 0 ∨ k = 1 ∨ k = 2 ∨ k = 3 := by omega
  have p1 : lim 1 = nI 6 := by decide +kernel
  have p2 : lim 2 = nI 36 := by decide +kernel
  have p0 : lim 0 = nI 1 := by decide +kernel
  have p3 : lim 3 = nI 216 := by decide +kernel
  have t1 : (nI 3 < nI k) = False := by rw [lt_ok (by decide) (by omega)]; exact propext ⟨fun h => by omega, fun h => h.elim⟩
  have t2 : (nI k < 0) = False := lt0_ok (by omega)
  have t3 : (nI (enc l) < 0) = False := lt0_ok (by omega)
  unfold fX10_has
  rw [if_neg (by rw [t3]; exact id), if_neg (by rw [t2]; exact id), if_neg (by rw [t1]; exact id), ra_ok _ _ hk (by decide), lim_e hk, if_pos (by rw [lt_ok (by omega) (by omega)]; exact hpw)]
  rcases k4 with rfl | rfl | rfl | rfl
  · rw [if_pos n0_0, ite_some]
    refine ⟨_, rfl, ?_⟩
    have e : l = [] := List.length_eq_zero_iff.mp (Nat.le_zero.mp hlk)
    rw [e]
    by_cases hz : s.2.1 (wId i 0) 2 = 0
    · rw [if_pos hz]
      exact PB.f (fun hp => by obtain ⟨_, a, ha⟩ := ct0.mp hp; exact h.some.mp hz a ha)
    · rw [if_neg hz]
      exact PB.t (ct0.mpr ⟨rfl, Classical.byContradiction (fun hc => hz (h.some.mpr (fun a ha => hc ⟨a, ha⟩)))⟩)
  · have h6 : enc l < 6 := hpw
    rw [if_neg n1_0, if_neg (by decide +kernel), jn_def, if_pos rfl]
    dsimp only
    simp only [bit_l _ (show enc l < 64 by omega)]
    rw [ite_some]
    refine ⟨_, rfl, PB.b _ ?_⟩
    rw [h.2.2.2.2]
    exact cd_l (ctS.vs h.1 (by omega)) hl
  · have h6 : enc l < 36 := hpw
    rw [if_neg (by decide +kernel), if_neg (by decide +kernel), jn_def, if_neg (by decide +kernel)]
    dsimp only
    simp only [bit_l _ (show enc l < 64 by omega)]
    rw [ite_some]
    refine ⟨_, rfl, PB.b _ ?_⟩
    rw [h.2.2.2.1]
    exact cd_l (ctS.vs h.1 (by omega)) hl
  · rw [ct3 h.1, if_neg (by decide +kernel), if_pos (by decide +kernel), ra_ok _ _ (by decide) (by decide), p1, jn_def]
    simp (disch := omega) only [ra_ok, p1, p2, lt_def]
    rcases hl.c with rfl | ⟨x, hx, rfl⟩ | ⟨x, y, hx, hy, rfl⟩ | ⟨x, y, z, hx, hy, hz, rfl⟩
    · rw [if_neg (by simp only [enc]; decide +kernel)]
      simp only [enc]
      simp (disch := omega) only [if_neg, eq0_ok, pk_div, ra_ok, nI_mulN, nI_subN, bit_l]
      rw [ite_some]
      exact ⟨_, rfl, PB.b _ h.r0⟩
    · simp only [enc]
      simp (disch := omega) only [if_neg, le_ok, eq0_ok, pk_div, ra_ok, nI_mulN, nI_subN, bit_l, Nat.div_one, Nat.mul_one, Nat.sub_self]
      rw [ite_some]
      exact ⟨_, rfl, PB.b _ (h.rx (l := []) hx hl)⟩
    · simp only [enc]
      have d1 : (6 * (x + 1) + (y + 1)) / 6 = x + 1 := by omega
      have d2 : 6 * (x + 1) + (y + 1) - (x + 1) * 6 = y + 1 := by omega
      simp (disch := omega) only [if_neg, if_pos, le_ok, eq0_ok, pk_div, ra_ok, nI_mulN, nI_subN, bit_l, d1, d2]
      rw [ite_some]
      exact ⟨_, rfl, PB.b _ (h.rx (l := [y]) hx hl)⟩
    · simp only [enc]
      have d1 : (36 * (x + 1) + 6 * (y + 1) + (z + 1)) / 36 = x + 1 := by omega
      have d2 : 36 * (x + 1) + 6 * (y + 1) + (z + 1) - (x + 1) * 36 = 6 * (y + 1) + (z + 1) := by omega
      simp (disch := omega) only [if_neg, if_pos, le_ok, eq0_ok, pk_div, ra_ok, nI_mulN, nI_subN, bit_l, d1, d2]
      rw [ite_some]
      exact ⟨_, rfl, PB.b _ (h.rx (l := [y, z]) hx hl)⟩
theorem meets_c {A B : WLs} {a b : Nat} {s : PH} (hA : WSt A a s) (hB : WSt B b s) {k n : Nat} (hk : k < 4) (hn : 10 ≤ n) : ∃ r, fX10_meets n a b (nI k) s = some (r, s) ∧ PB r (∃ l, ctS k A l ∧ ctS k B l) := by
  unfold fX10_meets
  simp (disch := omega) only [eq0_ok, le_ok, eq_ok, jn_def, lt_def]
  have lift : ∀ {k : Nat}, k ≤ 3 → ∀ {u v : Int64}, LB u (cd (ctS k A)) → LB v (cd (ctS k B)) → PB (if u &&& v = 0 then nI 0 else nI 1) (∃ l, ctS k A l ∧ ctS k B l) := by
    intro k hk u v hu hv
    have hz := (hu.and hv).z
    by_cases h0 : u &&& v = 0
    · rw [if_pos h0]
      exact PB.f (fun ⟨l, h1, h2⟩ => hz.mp h0 (enc l) ⟨⟨l, h1, rfl⟩, l, h2, rfl⟩)
    · rw [if_neg h0]
      refine PB.t (Classical.byContradiction (fun hc => h0 (hz.mpr ?_)))
      rintro c ⟨⟨l, h1, e1⟩, l', h2, e2⟩
      have e := enc_inj (ctS.vs hA.1 hk l h1) (ctS.vs hB.1 hk l' h2) (e1.trans e2.symm)
      exact hc ⟨l, h1, by rw [e]; exact h2⟩
  have k4 : k = 0 ∨ k = 1 ∨ k = 2 ∨ k = 3 := by omega
  rcases k4 with rfl | rfl | rfl | rfl
  · rw [if_pos rfl]
    by_cases hz : s.2.1 (wId a 0) 2 = 0
    · rw [if_pos hz]
      refine ⟨_, rfl, PB.f ?_⟩
      rintro ⟨l, h1, _⟩
      obtain ⟨_, x, hx⟩ := ct0.mp h1
      exact hA.some.mp hz x hx
    · rw [if_neg hz, ite_some]
      refine ⟨_, rfl, ?_⟩
      have hA1 : ∃ x, A x := Classical.byContradiction (fun hc => hz (hA.some.mpr (fun a ha => hc ⟨a, ha⟩)))
      by_cases hz2 : s.2.1 (wId b 0) 2 = 0
      · rw [if_pos hz2]
        refine PB.f ?_
        rintro ⟨l, _, h1⟩
        obtain ⟨_, x, hx⟩ := ct0.mp h1
        exact hB.some.mp hz2 x hx
      · rw [if_neg hz2]
        have hB1 : ∃ x, B x := Classical.byContradiction (fun hc => hz2 (hB.some.mpr (fun a ha => hc ⟨a, ha⟩)))
        exact PB.t ⟨[], ct0.mpr ⟨rfl, hA1⟩, ct0.mpr ⟨rfl, hB1⟩⟩
  · simp (disch := omega) only [if_neg, if_pos]
    rw [ite_some]
    exact ⟨_, rfl, lift (by omega) hA.2.2.2.2 hB.2.2.2.2⟩
  · simp (disch := omega) only [if_neg, if_pos]
    rw [ite_some]
    exact ⟨_, rfl, lift (by omega) hA.2.2.2.1 hB.2.2.2.1⟩
  · simp (disch := omega) only [if_neg, if_pos]
    rw [ct3 hA.1, ct3 hB.1]
    have key : wp (loo2 (fun (recrec4 : Int32 → PH → Option (Int32 × PH)) v2 s3 => if nI 6 ≤ v2 then some (nI 0, s3) else ra 6 v2 (s3.2.1 (wId a 1)) fun u5 => ra 6 v2 (s3.2.1 (wId b 1)) fun u6 => if u5 &&& u6 = 0 then recrec4 (v2 + nI 1) s3 else some (nI 1, s3)) n (nI 0) s) (fun r t => t = s ∧ PB r (∃ l, A l ∧ B l)) := by
      refine wp_for2 6 (by omega) (fun d t => t = s ∧ ∀ e c, e < d → ¬ (rwS A e c ∧ rwS B e c)) ?_ ?_ n 0 s (by omega) ⟨rfl, fun e c h => absurd h (Nat.not_lt_zero e)⟩ (by omega)
      · rintro rec d t hd ⟨rfl, hno⟩ ih
        simp (disch := omega) only [le_ok, if_neg, ra_ok, nI_add]
        have hz := ((hA.rw hd).and (hB.rw hd)).z
        by_cases h0 : t.2.1 (wId a 1) d &&& t.2.1 (wId b 1) d = 0
        · rw [if_pos h0]
          refine ih _ ⟨rfl, fun e c he => ?_⟩
          by_cases ed : e = d
          · rw [ed]; exact hz.mp h0 c
          · exact hno e c (by omega)
        · rw [if_neg h0]
          refine wp_some ⟨rfl, PB.t ?_⟩
          obtain ⟨c, h1, h2⟩ : ∃ c, rwS A d c ∧ rwS B d c := Classical.byContradiction (fun hc => h0 (hz.mpr (fun c h => hc ⟨c, h⟩)))
          unfold rwS at h1 h2
          by_cases e0 : d = 0
          · rw [if_pos e0] at h1 h2
            exact ⟨[], h1.2, h2.2⟩
          · rw [if_neg e0] at h1 h2
            obtain ⟨l, h3, e3⟩ := h1
            obtain ⟨l', h4, e4⟩ := h2
            have v3 : VL l := ⟨Nat.le_trans (Nat.le_succ _) (hA.1 _ h3).1, fun y hy => (hA.1 _ h3).2 y (by simp [hy])⟩
            have v4 : VL l' := ⟨Nat.le_trans (Nat.le_succ _) (hB.1 _ h4).1, fun y hy => (hB.1 _ h4).2 y (by simp [hy])⟩
            have e := enc_inj v3 v4 (e3.trans e4.symm)
            exact ⟨(d - 1) :: l, h3, by rw [e]; exact h4⟩
      · rintro rec t ⟨rfl, hno⟩
        simp (disch := omega) only [le_ok, if_pos]
        refine wp_some ⟨rfl, PB.f ?_⟩
        rintro ⟨l, h1, h2⟩
        obtain ⟨d, c, hd, e1, e2⟩ := rwS_l hA.1 (hA.1 l h1)
        exact hno d c hd ⟨e1.mp h1, (e2 B hB.1).mp h2⟩
    obtain ⟨r, t, e, rfl, hp⟩ := key
    exact ⟨r, e, hp⟩
theorem size_c {W : WLs} {i : Nat} {s : PH} (h : WSt W i s) {k n : Nat} (hk : k < 4) (hn : 10 ≤ n) : fX10_size n i (nI k) s = some (nI (cn (cB (ctS k W)) 216), s) := by
  have ecB : ∀ (V : WLs) (c : Nat), pB (cd V c) = cB V c := fun V c => rfl
  have ext : ∀ (V : WLs), (∀ c, cd V c → c < 40) → cn (fun c => pB (cd V c)) 40 = cn (cB V) 216 := by
    intro V hV
    rw [show 216 = 40 + 176 by rfl, cn_split (cB V) 40 176, cn_zero 176 (fun c _ => ?_)]
    · rfl
    · show pB (cd V (40 + c)) = false
      rw [pB_f]
      intro hc
      have := hV _ hc
      omega
  unfold fX10_size
  simp (disch := omega) only [eq0_ok, le_ok, eq_ok, jn_def, lt_def]
  have k4 : k = 0 ∨ k = 1 ∨ k = 2 ∨ k = 3 := by omega
  rcases k4 with rfl | rfl | rfl | rfl
  · rw [if_pos rfl, ite_some]
    have e0 : cn (cB (ctS 0 W)) 216 = if pB (ctS 0 W []) = true then 1 else 0 := by
      rw [show 216 = 1 + 215 by rfl, cn_split (cB (ctS 0 W)) 1 215, cn_zero 215 (fun c _ => ?_)]
      · show 0 + (if cB (ctS 0 W) 0 = true then 1 else 0) + 0 = _
        have : cB (ctS 0 W) 0 = pB (ctS 0 W []) := pB_i (cd_l (l := []) (ctS.vs h.1 (by omega)) VL.nil)
        rw [this, Nat.zero_add, Nat.add_zero]
      · show pB (cd (ctS 0 W) (1 + c)) = false
        rw [pB_f]
        rintro ⟨l, hl, e⟩
        rw [(ct0.mp hl).1] at e
        simp [enc] at e
        omega
    rw [e0]
    by_cases hz : s.2.1 (wId i 0) 2 = 0
    · rw [if_pos hz, if_neg (fun hp => by obtain ⟨_, a, ha⟩ := ct0.mp (pB_t.mp hp); exact h.some.mp hz a ha)]
    · rw [if_neg hz, if_pos (pB_t.mpr (ct0.mpr ⟨rfl, Classical.byContradiction (fun hc => hz (h.some.mpr (fun a ha => hc ⟨a, ha⟩)))⟩))]
  · simp (disch := omega) only [if_neg, if_pos]
    have hlt : ∀ c, cd (ctS 1 W) c → c < 40 := fun c hc => by have := cd_lt1 h.1 hc; omega
    rw [bitCountL h.2.2.2.2 hlt, bd_ok, ext _ hlt]
    simp
  · simp (disch := omega) only [if_neg, if_pos]
    have hlt : ∀ c, cd (ctS 2 W) c → c < 40 := by
      rintro c ⟨l, hl, rfl⟩
      rcases V2.ct h.1 l hl with rfl | ⟨x, hx, rfl⟩ | ⟨x, y, hx, hy, rfl⟩ <;> simp only [enc] <;> omega
    rw [bitCountL h.2.2.2.1 hlt, bd_ok, ext _ hlt]
  · simp (disch := omega) only [if_neg, if_pos]
    rw [ct3 h.1]
    -- the rows
    have hrow : ∀ d, d < 6 → ∀ c, rwS W d c → c < 36 := by
      intro d hd c hc
      unfold rwS at hc
      by_cases e0 : d = 0
      · rw [if_pos e0] at hc; omega
      · rw [if_neg e0] at hc
        obtain ⟨l, hl, rfl⟩ := hc
        rcases V2.tl h.1 _ l hl with rfl | ⟨x, hx, rfl⟩ | ⟨x, y, hx, hy, rfl⟩ <;> simp only [enc] <;> omega
    have hr36 : ∀ d, d < 6 → cn (fun c => pB (rwS W d c)) 40 = cn (fun c => pB (rwS W d c)) 36 := by
      intro d hd
      rw [show 40 = 36 + 4 by rfl, cn_split _ 36 4, cn_zero 4 (fun c _ => ?_)]
      · rfl
      · rw [pB_f]
        intro hc
        have := hrow d hd _ hc
        omega
    have key : wp (loo3 (fun (recrec6 : Int32 → Int32 → PH → Option (Int32 × PH)) v3 v4 s5 => if nI 6 ≤ v4 then some (v3, s5) else ra 6 v4 (s5.2.1 (wId i 1)) fun u7 => bd (fJ13_bitCount_95d88 u7 s5) fun r9 s8 => recrec6 (v3 + r9) (v4 + nI 1) s8) n (nI 0) (nI 0) s) (fun r t => t = s ∧ r = nI (cn (fun c => pB (rwS W 0 c)) 36 + cn (fun c => pB (rwS W 1 c)) 36 + cn (fun c => pB (rwS W 2 c)) 36 + cn (fun c => pB (rwS W 3 c)) 36 + cn (fun c => pB (rwS W 4 c)) 36 + cn (fun c => pB (rwS W 5 c)) 36)) := by
      refine wp_for3 6 (by omega) (fun d v t => t = s ∧ v = nI ((if 0 < d then cn (fun c => pB (rwS W 0 c)) 36 else 0) + (if 1 < d then cn (fun c => pB (rwS W 1 c)) 36 else 0) + (if 2 < d then cn (fun c => pB (rwS W 2 c)) 36 else 0) + (if 3 < d then cn (fun c => pB (rwS W 3 c)) 36 else 0) + (if 4 < d then cn (fun c => pB (rwS W 4 c)) 36 else 0) + (if 5 < d then cn (fun c => pB (rwS W 5 c)) 36 else 0))) ?_ ?_ n 0 _ s (by omega) ⟨rfl, rfl⟩ (by omega)
      · rintro rec d v t hd ⟨rfl, rfl⟩ ih
        simp (disch := omega) only [le_ok, if_neg, ra_ok]
        rw [bitCountL (h.rw hd) (fun c hc => by have := hrow d hd c hc; omega), bd_ok, hr36 d hd]
        simp only [nI_add]
        refine ih _ _ ⟨rfl, ?_⟩
        congr 1
        rcases six hd with rfl | rfl | rfl | rfl | rfl | rfl <;> simp
      · rintro rec v t ⟨rfl, rfl⟩
        simp (disch := omega) only [le_ok, if_pos]
        exact wp_some ⟨rfl, by simp⟩
    obtain ⟨r, t, e, rfl, rfl⟩ := key
    rw [e]
    congr 2
    congr 1
    -- words by their numbers
    have blk : ∀ x, x < 5 → cn (fun c => pB (rwS W (x + 1) c)) 36 = (if cB W (x + 1) = true then 1 else 0) + cn (fun c => cB W (6 * (x + 1) + c)) 6 + cn (fun c => cB W (36 * (x + 1) + c)) 36 := by
      intro x hx
      have b1 : ∀ c, rwS W (x + 1) c ↔ ∃ l, W (x :: l) ∧ enc l = c := by
        intro c
        unfold rwS
        rw [if_neg (by omega)]
        rfl
      have inv : ∀ c, cB W c = true → ∃ l, W l ∧ VL l ∧ enc l = c := fun c hc => by
        obtain ⟨l, hl, e⟩ := cB_t.mp hc
        exact ⟨l, hl, h.1 l hl, e⟩
      have beq : ∀ {P : Prop} {c : Nat}, (P ↔ cd W c) → pB P = cB W c := fun {P c} hp => pB_i hp
      have z0 : pB (rwS W (x + 1) 0) = cB W (x + 1) := by
        apply beq
        rw [b1]
        constructor
        · rintro ⟨l, hl, e⟩
          rcases V2.tl h.1 x l hl with rfl | ⟨y, hy, rfl⟩ | ⟨y, z, hy, hz, rfl⟩
          · exact ⟨[x], hl, rfl⟩
          · simp [enc] at e
          · simp [enc] at e
        · rintro ⟨l, hl, e⟩
          have : l = [x] := enc_inj (h.1 l hl) (VL.one hx) e
          subst this
          exact ⟨[], hl, rfl⟩
      have z1 : ∀ c, c < 5 → pB (rwS W (x + 1) (1 + c)) = cB W (6 * (x + 1) + (1 + c)) := by
        intro c hc
        apply beq
        rw [b1]
        have hv : VL [x, c] := ⟨by simp, by simp; omega⟩
        constructor
        · rintro ⟨l, hl, e⟩
          rcases V2.tl h.1 x l hl with rfl | ⟨y, hy, rfl⟩ | ⟨y, z, hy, hz, rfl⟩
          · simp [enc] at e; omega
          · exact ⟨[x, y], hl, by simp only [enc] at e ⊢; omega⟩
          · simp [enc] at e; omega
        · rintro ⟨l, hl, e⟩
          have : l = [x, c] := enc_inj (h.1 l hl) hv (by rw [e]; simp only [enc]; omega)
          subst this
          exact ⟨[c], hl, by simp only [enc]; omega⟩
      have z2 : ∀ c, c < 30 → pB (rwS W (x + 1) (6 + c)) = cB W (36 * (x + 1) + (6 + c)) := by
        intro c hc
        apply beq
        rw [b1]
        constructor
        · rintro ⟨l, hl, e⟩
          rcases V2.tl h.1 x l hl with rfl | ⟨y, hy, rfl⟩ | ⟨y, z, hy, hz, rfl⟩
          · simp [enc] at e; omega
          · simp [enc] at e; omega
          · exact ⟨[x, y, z], hl, by simp only [enc] at e ⊢; omega⟩
        · rintro ⟨l, hl, e⟩
          rcases (h.1 l hl).c with rfl | ⟨x', hx', rfl⟩ | ⟨x', y', hx', hy', rfl⟩ | ⟨x', y', z', hx', hy', hz', rfl⟩
          · simp only [enc] at e; omega
          · simp only [enc] at e; omega
          · simp only [enc] at e; omega
          · simp only [enc] at e
            have e1 : x' = x := by omega
            subst e1
            exact ⟨[y', z'], hl, by simp only [enc]; omega⟩
      have y1 : cB W (6 * (x + 1) + 0) = false := by
        cases hb : cB W (6 * (x + 1) + 0) with
        | false => rfl
        | true =>
          obtain ⟨l, _, hv, e⟩ := inv _ hb
          rcases hv.c with rfl | ⟨x', hx', rfl⟩ | ⟨x', y', hx', hy', rfl⟩ | ⟨x', y', z', hx', hy', hz', rfl⟩ <;> simp only [enc] at e <;> omega
      have y2 : ∀ c, c < 6 → cB W (36 * (x + 1) + c) = false := by
        intro c hc
        cases hb : cB W (36 * (x + 1) + c) with
        | false => rfl
        | true =>
          obtain ⟨l, _, hv, e⟩ := inv _ hb
          rcases hv.c with rfl | ⟨x', hx', rfl⟩ | ⟨x', y', hx', hy', rfl⟩ | ⟨x', y', z', hx', hy', hz', rfl⟩ <;> simp only [enc] at e <;> omega
      have s1 := cn_split (fun c => pB (rwS W (x + 1) c)) 6 30
      have s2 := cn_split (fun c => pB (rwS W (x + 1) c)) 1 5
      have s3 := cn_split (fun c => cB W (6 * (x + 1) + c)) 1 5
      have s4 := cn_split (fun c => cB W (36 * (x + 1) + c)) 6 30
      have c1 : cn (fun c => pB (rwS W (x + 1) c)) 1 = if cB W (x + 1) = true then 1 else 0 := by
        show 0 + (if pB (rwS W (x + 1) 0) = true then 1 else 0) = _
        rw [z0, Nat.zero_add]
      have c2 : cn (fun i => pB (rwS W (x + 1) (1 + i))) 5 = cn (fun i => cB W (6 * (x + 1) + (1 + i))) 5 := cn_congr 5 z1
      have c3 : cn (fun i => pB (rwS W (x + 1) (6 + i))) 30 = cn (fun i => cB W (36 * (x + 1) + (6 + i))) 30 := cn_congr 30 z2
      have c4 : cn (fun c => cB W (6 * (x + 1) + c)) 1 = 0 := cn_zero 1 (fun c hc => by rw [show c = 0 by omega]; exact y1)
      have c5 : cn (fun c => cB W (36 * (x + 1) + c)) 6 = 0 := cn_zero 6 y2
      have n1 : 1 + 5 = 6 := rfl
      have n2 : 6 + 30 = 36 := rfl
      rw [n1] at s2 s3
      rw [n2] at s1 s4
      omega
    have r0 : cn (fun c => pB (rwS W 0 c)) 36 = if cB W 0 = true then 1 else 0 := by
      rw [show 36 = 1 + 35 by rfl, cn_split _ 1 35, cn_zero 35 (fun c _ => ?_)]
      · show 0 + (if pB (rwS W 0 0) = true then 1 else 0) + 0 = _
        rw [Nat.zero_add, Nat.add_zero]
        have : pB (rwS W 0 0) = cB W 0 := by
          apply pB_i
          unfold rwS
          rw [if_pos rfl]
          exact ⟨fun hh => ⟨[], hh.2, rfl⟩, fun hh => ⟨rfl, (cd_l (l := []) h.1 VL.nil).mp hh⟩⟩
        rw [this]
      · rw [pB_f]
        unfold rwS
        rw [if_pos rfl]
        omega
    have q1 := cn_split (cB W) 36 180
    have q2 := cn_split (cB W) 6 30
    have q6 : cn (cB W) 6 = (if cB W 0 = true then 1 else 0) + (if cB W 1 = true then 1 else 0) + (if cB W 2 = true then 1 else 0) + (if cB W 3 = true then 1 else 0) + (if cB W 4 = true then 1 else 0) + (if cB W 5 = true then 1 else 0) := by
      show 0 + _ + _ + _ + _ + _ + _ = _
      rw [Nat.zero_add]
    have t6 : cn (fun i => cB W (6 + i)) 30 = cn (fun c => cB W (6 * 1 + c)) 6 + cn (fun c => cB W (6 * 2 + c)) 6 + cn (fun c => cB W (6 * 3 + c)) 6 + cn (fun c => cB W (6 * 4 + c)) 6 + cn (fun c => cB W (6 * 5 + c)) 6 := by
      rw [show 30 = 6 + 24 by rfl, cn_split _ 6 24, show 24 = 6 + 18 by rfl, cn_split _ 6 18, show 18 = 6 + 12 by rfl, cn_split _ 6 12, show 12 = 6 + 6 by rfl, cn_split _ 6 6]
      have w2 : cn (fun c => cB W (6 * 2 + c)) 6 = cn (fun i => cB W (6 + (6 + i))) 6 := cn_congr 6 (fun i _ => by congr 1; omega)
      have w3 : cn (fun c => cB W (6 * 3 + c)) 6 = cn (fun i => cB W (6 + (6 + (6 + i)))) 6 := cn_congr 6 (fun i _ => by congr 1; omega)
      have w4 : cn (fun c => cB W (6 * 4 + c)) 6 = cn (fun i => cB W (6 + (6 + (6 + (6 + i))))) 6 := cn_congr 6 (fun i _ => by congr 1; omega)
      have w5 : cn (fun c => cB W (6 * 5 + c)) 6 = cn (fun i => cB W (6 + (6 + (6 + (6 + (6 + i)))))) 6 := cn_congr 6 (fun i _ => by congr 1; omega)
      rw [w2, w3, w4, w5, Nat.mul_one]
      omega
    have u1 := cn_split (fun i => cB W (36 + i)) 36 144
    have u2 := cn_split (fun i => cB W (36 + (36 + i))) 36 108
    have u3 := cn_split (fun i => cB W (36 + (36 + (36 + i)))) 36 72
    have u4 := cn_split (fun i => cB W (36 + (36 + (36 + (36 + i))))) 36 36
    have b1 := blk 0 (by decide)
    have b2 := blk 1 (by decide)
    have b3 := blk 2 (by decide)
    have b4 := blk 3 (by decide)
    have b5 := blk 4 (by decide)
    have v2 : cn (fun c => cB W (36 * (1 + 1) + c)) 36 = cn (fun i => cB W (36 + (36 + i))) 36 := cn_congr 36 (fun i _ => by congr 1; omega)
    have v3 : cn (fun c => cB W (36 * (2 + 1) + c)) 36 = cn (fun i => cB W (36 + (36 + (36 + i)))) 36 := cn_congr 36 (fun i _ => by congr 1; omega)
    have v4 : cn (fun c => cB W (36 * (3 + 1) + c)) 36 = cn (fun i => cB W (36 + (36 + (36 + (36 + i))))) 36 := cn_congr 36 (fun i _ => by congr 1; omega)
    have v5 : cn (fun c => cB W (36 * (4 + 1) + c)) 36 = cn (fun i => cB W (36 + (36 + (36 + (36 + (36 + i)))))) 36 := cn_congr 36 (fun i _ => by congr 1; omega)
    simp only [Nat.reduceAdd] at q1 q2 u1 u2 u3 u4 b1 b2 b3 b4 b5 v2 v3 v4 v5
    have v1 : cn (fun c => cB W (36 * 1 + c)) 36 = cn (fun i => cB W (36 + i)) 36 := rfl
    omega
