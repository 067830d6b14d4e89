/-! ===== the class: marks, clashes, depths ===== -/
theorem lastDigits_c {s : PH} {a : Int64} {P : Nat → Prop} (h : LB a P) {n : Nat} (hn : 10 ≤ n) : ∃ r, fX10_lastDigits n a s = some (r, s) ∧ LB r (fun c => (1 ≤ c ∧ c < 6) ∧ ∃ d, d < 5 ∧ P (6 * (d + 1) + c)) := by
  have key : wp (fX10_lastDigits n a s) (fun r t => t = s ∧ LB r (fun c => (1 ≤ c ∧ c < 6) ∧ ∃ d, d < 5 ∧ P (6 * (d + 1) + c))) := by
    unfold fX10_lastDigits
    simp only [lt_def]
    refine wp_for3 6 (by omega) (fun e u t => 1 ≤ e ∧ t = s ∧ LB u (fun c => (1 ≤ c ∧ c < 6) ∧ ∃ d, d + 1 < e ∧ P (6 * (d + 1) + c))) ?_ ?_ n 1 _ s (by omega) ⟨Nat.le_refl 1, rfl, LB.zero.of (fun c => ⟨fun h => h.elim, fun ⟨_, d, h, _⟩ => by omega⟩)⟩ (by omega)
    · rintro rec e u t he ⟨h1, rfl, hu⟩ ih
      obtain ⟨x, rfl⟩ : ∃ x, e = x + 1 := ⟨e - 1, by omega⟩
      simp (disch := omega) only [le_ok, if_neg, nI_mulN, nI_add]
      have l : LB (a >>> ((nI (6 * (x + 1))).toInt64 &&& 63) &&& 62) (fun c => (1 ≤ c ∧ c < 6) ∧ P (6 * (x + 1) + c)) := by
        intro c
        rw [tb_and, tb_62, Bool.and_eq_true, decide_eq_true_eq]
        constructor
        · rintro ⟨h2, h3⟩
          rw [tb_shr a (by omega) (by omega), h] at h2
          exact ⟨h3, h2⟩
        · rintro ⟨h2, h3⟩
          rw [tb_shr a (by omega) (by omega), h]
          exact ⟨h3, h2⟩
      refine ih _ _ ⟨by omega, rfl, (hu.or l).of (fun c => ?_)⟩
      constructor
      · rintro (⟨h2, d, h3, h4⟩ | ⟨h2, h3⟩)
        · exact ⟨h2, d, by omega, h4⟩
        · exact ⟨h2, x, by omega, h3⟩
      · rintro ⟨h2, d, h3, h4⟩
        by_cases ed : d = x
        · subst ed; exact Or.inr ⟨h2, h4⟩
        · exact Or.inl ⟨h2, d, by omega, h4⟩
    · rintro rec u t ⟨h1, rfl, hu⟩
      simp (disch := omega) only [le_ok, if_pos]
      refine wp_some ⟨rfl, hu.of (fun c => ?_)⟩
      constructor
      · rintro ⟨h2, d, h3, h4⟩; exact ⟨h2, d, by omega, h4⟩
      · rintro ⟨h2, d, h3, h4⟩; exact ⟨h2, d, by omega, h4⟩
  obtain ⟨r, t, e, rfl, hp⟩ := key
  exact ⟨r, e, hp⟩
theorem markMask_c {s : PH} {a : Int64} {P : Nat → Prop} (h : LB a P) (e : Bool) : fX10_markMask a (bI e) s = some (nI (mk (fun i => if i < 5 then pB (P (i + 1)) else e)), s) := by
  have tbt : ∀ c, tb a c = pB (P c) := by
    intro c
    cases hb : tb a c with
    | false => exact (pB_f.mpr (fun hp => by rw [(h c).mpr hp] at hb; cases hb)).symm
    | true => exact (pB_t.mpr ((h c).mp hb)).symm
  have e62 : a &&& 62 = lN (2 * mkB (pB (P 1)) (pB (P 2)) (pB (P 3)) (pB (P 4)) (pB (P 5)) false) := by
    apply tb_ext
    intro c hc
    rw [tb_and, tb_62, tbt]
    have k : ∀ (b0 b1 b2 b3 b4 : Bool) (c : Fin 64), tb (lN (2 * mkB b0 b1 b2 b3 b4 false)) c.val = if c.val = 1 then b0 else if c.val = 2 then b1 else if c.val = 3 then b2 else if c.val = 4 then b3 else if c.val = 5 then b4 else false := by decide +kernel
    rw [k _ _ _ _ _ ⟨c, hc⟩]
    dsimp only
    by_cases h1 : c = 1
    · subst h1; simp
    · by_cases h2 : c = 2
      · subst h2; simp
      · by_cases h3 : c = 3
        · subst h3; simp
        · by_cases h4 : c = 4
          · subst h4; simp
          · by_cases h5 : c = 5
            · subst h5; simp
            · rw [if_neg h1, if_neg h2, if_neg h3, if_neg h4, if_neg h5, decide_eq_false (by omega), Bool.and_false]
  unfold fX10_markMask
  rw [e62]
  simp only [bI_0]
  have k0 : ∀ b0 b1 b2 b3 b4 : Bool, ((lN (2 * mkB b0 b1 b2 b3 b4 false) >>> ((nI 1).toInt64 &&& 63)).toInt32 ||| nI 0) = nI (mkB b0 b1 b2 b3 b4 false) := by decide +kernel
  have k1 : ∀ b0 b1 b2 b3 b4 : Bool, ((lN (2 * mkB b0 b1 b2 b3 b4 false) >>> ((nI 1).toInt64 &&& 63)).toInt32 ||| nI 32) = nI (mkB b0 b1 b2 b3 b4 true) := by decide +kernel
  cases e with
  | false => rw [if_pos rfl, k0]; rfl
  | true => rw [if_neg (by decide), k1]; rfl
noncomputable def mB (W : WLs) (j i : Nat) : Bool := if i < 5 then pB (∃ l, W l ∧ l[j]? = some i) else pB (∃ l, W l ∧ l.length ≤ j)
theorem mB_of {W : WLs} {P : Nat → Prop} {j : Nat} {e : Bool} (h1 : ∀ i, i < 5 → (P (i + 1) ↔ ∃ l, W l ∧ l[j]? = some i)) (h2 : e = true ↔ ∃ l, W l ∧ l.length ≤ j) : mk (fun i => if i < 5 then pB (P (i + 1)) else e) = mk (mB W j) := by
  apply mk_congr
  intro i hi
  unfold mB
  by_cases h : i < 5
  · rw [if_pos h, if_pos h]
    exact pB_i (h1 i h)
  · rw [if_neg h, if_neg h]
    cases e with
    | false => exact (pB_f.mpr (fun hp => by have := h2.mpr hp; cases this)).symm
    | true => exact (pB_t.mpr (h2.mp rfl)).symm
theorem bI_z {v : Int64} : (if v = 0 then bI false else bI true) = bI (!decide (v = 0)) := by
  by_cases h : v = 0
  · simp [h]
  · simp [h]
theorem marksAt_c {W : WLs} {i : Nat} {s : PH} (h : WSt W i s) {j n : Nat} (hj : j < 3) (hn : 10 ≤ n) : fX10_marksAt n i (nI j) s = some (nI (mk (mB W j)), s) := by
  unfold fX10_marksAt
  have j3 : j = 0 ∨ j = 1 ∨ j = 2 := by omega
  rcases j3 with rfl | rfl | rfl
  · rw [if_pos n0_0, jn_def]
    have l0 : LB (s.2.1 (wId i 0) 2 &&& 1) (fun c => cd (ctS 1 W) c ∧ c = 0) := by
      intro c
      rw [tb_and, tb_1, Bool.and_eq_true, h.2.2.2.2, decide_eq_true_eq]
    have fin : ∀ e : Bool, (e = true ↔ W []) → (bd (fX10_markMask (s.2.1 (wId i 0) 2) (bI e) s) fun r31 s30 => some (r31, s30)) = some (nI (mk (mB W 0)), s) := by
      intro e he
      rw [markMask_c h.2.2.2.2, bd_ok, mB_of (W := W) (j := 0)]
      · intro y hy
        rw [hd_1]
        constructor
        · rintro ⟨b, hb⟩; exact ⟨y :: b, hb, rfl⟩
        · rintro ⟨l, hl, e1⟩
          cases l with
          | nil => simp at e1
          | cons x l =>
            have : x = y := by simpa using e1
            subst this
            exact ⟨l, hl⟩
      · rw [he]
        constructor
        · intro hh; exact ⟨[], hh, Nat.le_refl 0⟩
        · rintro ⟨l, hl, e1⟩
          rw [List.length_eq_zero_iff.mp (Nat.le_zero.mp e1)] at hl
          exact hl
    by_cases hz : s.2.1 (wId i 0) 2 &&& 1 = 0
    · rw [if_pos hz]
      refine fin false ⟨fun h => absurd h (by decide), fun hw => ?_⟩
      exact absurd ⟨(hd_0 h.1).mpr hw, rfl⟩ (l0.z.mp hz 0)
    · rw [if_neg hz]
      refine fin true ⟨fun _ => Classical.byContradiction (fun hc => hz (l0.z.mpr ?_)), fun _ => rfl⟩
      rintro c ⟨h1, rfl⟩
      exact hc ((hd_0 h.1).mp h1)
  · rw [if_neg n1_0, if_pos rfl]
    obtain ⟨r, e1, e2⟩ := lastDigits_c (s := s) h.2.2.2.1 hn
    rw [e1, bd_ok, jn_def]
    have l0 : LB (s.2.1 (wId i 0) 1 &&& 63) (fun c => cd (ctS 2 W) c ∧ c < 6) := by
      intro c
      rw [tb_and, tb_63, Bool.and_eq_true, h.2.2.2.1, decide_eq_true_eq]
    have fin : ∀ e : Bool, (e = true ↔ ∃ l, W l ∧ l.length ≤ 1) → (bd (fX10_markMask r (bI e) s) fun r31 s30 => some (r31, s30)) = some (nI (mk (mB W 1)), s) := by
      intro e he
      rw [markMask_c e2, bd_ok]
      refine congrArg (fun z => some (nI z, s)) (mB_of (W := W) (j := 1) (P := fun c => (1 ≤ c ∧ c < 6) ∧ ∃ d, d < 5 ∧ cd (ctS 2 W) (6 * (d + 1) + c)) ?_ ?_)
      · intro y hy
        constructor
        · rintro ⟨_, d, hd, _, ⟨l, hl, rfl⟩, e3⟩
          rcases (h.1 l hl).c with rfl | ⟨x', hx', rfl⟩ | ⟨x', y', hx', hy', rfl⟩ | ⟨x', y', z', hx', hy', hz', rfl⟩
          · simp [enc] at e3
          · simp [enc] at e3; omega
          · simp only [List.take, enc] at e3
            exact ⟨_, hl, by simp; omega⟩
          · simp only [List.take, enc] at e3
            exact ⟨_, hl, by simp; omega⟩
        · rintro ⟨l, hl, e3⟩
          have hv := h.1 l hl
          match l, hl, e3, hv with
          | [], _, e3, _ => simp at e3
          | [x], _, e3, _ => simp at e3
          | x :: z :: l, hl, e3, hv =>
            have ez : z = y := by simpa using e3
            have hx : x < 5 := hv.2 x (by simp)
            exact ⟨by omega, x, hx, [x, z], ⟨_, hl, by simp⟩, by simp only [enc]; omega⟩
      · exact he
    have hsh : ∀ l, W l → (l.length ≤ 1 ↔ enc (l.take 2) < 6) := by
      intro l hl
      rcases (h.1 l hl).c with rfl | ⟨x', hx', rfl⟩ | ⟨x', y', hx', hy', rfl⟩ | ⟨x', y', z', hx', hy', hz', rfl⟩ <;> simp [enc] <;> omega
    by_cases hz : s.2.1 (wId i 0) 1 &&& 63 = 0
    · rw [if_pos hz]
      refine fin false ⟨fun h => absurd h (by decide), fun ⟨l, hl, e3⟩ => ?_⟩
      exact absurd ⟨⟨_, ⟨l, hl, rfl⟩, rfl⟩, (hsh l hl).mp e3⟩ (l0.z.mp hz _)
    · rw [if_neg hz]
      refine fin true ⟨fun _ => Classical.byContradiction (fun hc => hz (l0.z.mpr ?_)), fun _ => rfl⟩
      rintro c ⟨⟨_, ⟨l, hl, rfl⟩, rfl⟩, h6⟩
      exact hc ⟨l, hl, (hsh l hl).mpr h6⟩
  · rw [if_neg (by decide +kernel), if_neg (by decide +kernel)]
    simp only [lt_def, jn_def]
    have key : wp (loo3 (fun (recrec6 : Int64 → Int32 → PH → Option (Int32 × PH)) u3 v4 s5 => if nI 6 ≤ v4 then bd (fX10_lastDigits n u3 s5) fun r8 s7 => ra 6 (nI 0) (s7.2.1 (wId i 1)) fun u9 => if u9 = 0 then if u3 &&& 63 = 0 then bd (fX10_markMask r8 (nI 0) s7) fun r14 s13 => some (r14, s13) else bd (fX10_markMask r8 (nI 1) s7) fun r14 s13 => some (r14, s13) else bd (fX10_markMask r8 (nI 1) s7) fun r14 s13 => some (r14, s13) else ra 6 v4 (s5.2.1 (wId i 1)) fun u17 => recrec6 (u3 ||| u17) (v4 + nI 1) s5) n 0 (nI 1) s) (fun r t => t = s ∧ r = nI (mk (mB W 2))) := by
      refine wp_for3 6 (by omega) (fun e u t => 1 ≤ e ∧ t = s ∧ LB u (fun c => ∃ d, d + 1 < e ∧ cd (tlS d W) c)) ?_ ?_ n 1 _ s (by omega) ⟨Nat.le_refl 1, rfl, LB.zero.of (fun c => ⟨fun h => h.elim, fun ⟨d, h, _⟩ => by omega⟩)⟩ (by omega)
      · rintro rec e u t he ⟨h1, rfl, hu⟩ ih
        obtain ⟨x, rfl⟩ : ∃ x, e = x + 1 := ⟨e - 1, by omega⟩
        simp (disch := omega) only [le_ok, if_neg, ra_ok, nI_add]
        refine ih _ _ ⟨by omega, rfl, (hu.or (h.2.2.1 x (by omega))).of (fun c => ?_)⟩
        constructor
        · rintro (⟨d, h3, h4⟩ | h3)
          · exact ⟨d, by omega, h4⟩
          · exact ⟨x, by omega, h3⟩
        · rintro ⟨d, h3, h4⟩
          by_cases ed : d = x
          · subst ed; exact Or.inr h4
          · exact Or.inl ⟨d, by omega, h4⟩
      · rintro rec u t ⟨h1, rfl, hu⟩
        simp (disch := omega) only [le_ok, if_pos]
        obtain ⟨r, e1, e2⟩ := lastDigits_c (s := t) hu hn
        rw [e1, bd_ok]
        simp (disch := omega) only [ra_ok]
        have fin : ∀ e : Bool, (e = true ↔ ∃ l, W l ∧ l.length ≤ 2) → wp (bd (fX10_markMask r (bI e) t) fun r31 s30 => some (r31, s30)) (fun r t' => t' = t ∧ r = nI (mk (mB W 2))) := by
          intro e he
          rw [markMask_c e2, bd_ok]
          refine wp_some ⟨rfl, congrArg nI (mB_of (W := W) (j := 2) (P := fun c => (1 ≤ c ∧ c < 6) ∧ ∃ d, d < 5 ∧ ∃ x, x + 1 < 6 ∧ cd (tlS x W) (6 * (d + 1) + c)) ?_ ?_)⟩
          · intro y hy
            constructor
            · rintro ⟨_, d, hd, x, hx, l, hl, e3⟩
              rcases V2.tl h.1 x l hl with rfl | ⟨x', hx', rfl⟩ | ⟨x', y', hx', hy', rfl⟩
              · simp [enc] at e3
              · simp [enc] at e3; omega
              · simp only [enc] at e3
                exact ⟨_, hl, by simp; omega⟩
            · rintro ⟨l, hl, e3⟩
              have hv := h.1 l hl
              match l, hl, e3, hv with
              | [], _, e3, _ => simp at e3
              | [x], _, e3, _ => simp at e3
              | [x, z], _, e3, _ => simp at e3
              | x :: z :: u :: l, hl, e3, hv =>
                have eu : u = y := by simpa using e3
                have hx : x < 5 := hv.2 x (by simp)
                have hz : z < 5 := hv.2 z (by simp)
                refine ⟨by omega, z, hz, x, by omega, z :: u :: l, hl, ?_⟩
                have : l = [] := by
                  have h9 : l.length + 3 ≤ 3 := hv.1
                  exact List.length_eq_zero_iff.mp (by omega)
                subst this
                simp only [enc]; omega
          · exact he
        have l0 : LB (u &&& 63) (fun c => (∃ d, d + 1 < 6 ∧ cd (tlS d W) c) ∧ c < 6) := by
          intro c
          rw [tb_and, tb_63, Bool.and_eq_true, hu, decide_eq_true_eq]
        have hsh : ∀ x l, W (x :: l) → ((x :: l).length ≤ 2 ↔ enc l < 6) := by
          intro x l hl
          rcases V2.tl h.1 x l hl with rfl | ⟨x', hx', rfl⟩ | ⟨x', y', hx', hy', rfl⟩ <;> simp [enc] <;> omega
        have h0 : t.2.1 (wId i 1) 0 = 0 ↔ ¬ W [] := by
          rw [h.2.1.z]
          exact ⟨fun h hp => h 0 ⟨rfl, hp⟩, fun h c hc => h hc.2⟩
        by_cases hz0 : t.2.1 (wId i 1) 0 = 0
        · rw [if_pos hz0]
          by_cases hz : u &&& 63 = 0
          · rw [if_pos hz]
            refine fin false ⟨fun h => absurd h (by decide), fun ⟨l, hl, e3⟩ => ?_⟩
            cases l with
            | nil => exact absurd hl (h0.mp hz0)
            | cons x l => exact absurd ⟨⟨x, by have := (h.1 _ hl).2 x (by simp); omega, l, hl, rfl⟩, (hsh x l hl).mp e3⟩ (l0.z.mp hz _)
          · rw [if_neg hz]
            refine fin true ⟨fun _ => Classical.byContradiction (fun hc => hz (l0.z.mpr ?_)), fun _ => rfl⟩
            rintro c ⟨⟨x, hx, l, hl, rfl⟩, h6⟩
            exact hc ⟨x :: l, hl, (hsh x l hl).mpr h6⟩
        · rw [if_neg hz0]
          refine fin true ⟨fun _ => ?_, fun _ => rfl⟩
          exact ⟨[], Classical.byContradiction (fun hc => hz0 (h0.mpr hc)), by simp⟩
    obtain ⟨r, t, e, rfl, rfl⟩ := key
    exact e
/-- two sets have a mark in common at a place -/
def cmk (A B : WLs) (j : Nat) : Prop := ∃ i, i < 6 ∧ mB A j i = true ∧ mB B j i = true
theorem cmk_0 {A B : WLs} {j : Nat} : (nI (mk (mB A j)) &&& nI (mk (mB B j)) = 0) ↔ ¬ cmk A B j := by
  rw [mk_and, mk_0]
  constructor
  · rintro h ⟨i, hi, h1, h2⟩
    have := h i hi
    rw [h1, h2] at this
    cases this
  · intro h x hx
    cases h1 : mB A j x with
    | false => rfl
    | true =>
      cases h2 : mB B j x with
      | false => rfl
      | true => exact absurd ⟨x, hx, h1, h2⟩ h
/-- the first place with no mark in common; 3: there is none -/
noncomputable def ptN (A B : WLs) : Nat := if pB (cmk A B 0) = false then 0 else if pB (cmk A B 1) = false then 1 else if pB (cmk A B 2) = false then 2 else 3
theorem ptN_le (A B : WLs) : ptN A B ≤ 3 := by
  unfold ptN
  split
  · omega
  · split
    · omega
    · split <;> omega
theorem ptN_of {A B : WLs} {j : Nat} (hj : j ≤ 3) (h1 : ∀ i, i < j → cmk A B i) (h2 : j < 3 → ¬ cmk A B j) : ptN A B = j := by
  unfold ptN
  have c : ∀ i, i < j → ¬ pB (cmk A B i) = false := fun i hi h => pB_f.mp h (h1 i hi)
  have d : j < 3 → pB (cmk A B j) = false := fun h => pB_f.mpr (h2 h)
  have : j = 0 ∨ j = 1 ∨ j = 2 ∨ j = 3 := by omega
  rcases this with rfl | rfl | rfl | rfl
  · rw [if_pos (d (by omega))]
  · rw [if_neg (c 0 (by omega)), if_pos (d (by omega))]
  · rw [if_neg (c 0 (by omega)), if_neg (c 1 (by omega)), if_pos (d (by omega))]
  · rw [if_neg (c 0 (by omega)), if_neg (c 1 (by omega)), if_neg (c 2 (by omega))]
theorem parting_c {A B : WLs} {a b : Nat} {s : PH} (hA : WSt A a s) (hB : WSt B b s) {n : Nat} (hn : 10 ≤ n) : fX3_partingPlace n a b s = some (if ptN A B = 3 then -9 else nI (ptN A B), s) := by
  have key : wp (fX3_partingPlace n a b s) (fun r t => t = s ∧ r = if ptN A B = 3 then -9 else nI (ptN A B)) := by
    unfold fX3_partingPlace
    simp only [lt_def]
    refine wp_for2 3 (by omega) (fun j t => t = s ∧ ∀ i, i < j → cmk A B i) ?_ ?_ n 0 s (by omega) ⟨rfl, fun i hi => absurd hi (Nat.not_lt_zero i)⟩ (by omega)
    · rintro rec j t hj ⟨rfl, h1⟩ ih
      simp (disch := omega) only [le_ok, if_neg, marksAt_c hA hj hn, marksAt_c hB hj hn, bd_ok, nI_add]
      by_cases hz : nI (mk (mB A j)) &&& nI (mk (mB B j)) = 0
      · rw [if_pos hz]
        have := ptN_of (A := A) (B := B) (j := j) (by omega) h1 (fun _ => cmk_0.mp hz)
        refine wp_some ⟨rfl, ?_⟩
        rw [this, if_neg (by omega)]
      · rw [if_neg hz]
        refine ih _ ⟨rfl, fun i hi => ?_⟩
        by_cases e : i = j
        · rw [e]; exact Classical.byContradiction (fun hc => hz (cmk_0.mpr hc))
        · exact h1 i (by omega)
    · rintro rec t ⟨rfl, h1⟩
      simp (disch := omega) only [le_ok, if_pos]
      have := ptN_of (A := A) (B := B) (j := 3) (by omega) h1 (fun h => by omega)
      exact wp_some ⟨rfl, by rw [this, if_pos rfl]⟩
  obtain ⟨r, t, e, rfl, rfl⟩ := key
  exact e
/-- two productions of a nonterminal -/
def prx (G : Gr) (x p q : Nat) : Prop := p < q ∧ q < G.1 ∧ G.2.1 p = x ∧ G.2.1 q = x
def Mt (G : Gr) (k p q : Nat) : Prop := ∃ l, ctS k (AG G p) l ∧ ctS k (AG G q) l
def NC (G : Gr) (x k : Nat) : Prop := ∀ p q, prx G x p q → ¬ Mt G k p q
def PCL (G : Gr) (x k : Nat) (r : Int32) : Prop := (r = -9 ∧ NC G x k) ∨ ∃ p q, r = nI (100 * p + q) ∧ prx G x p q ∧ Mt G k p q ∧ ∀ p' q', prx G x p' q' → Mt G k p' q' → (p < p' ∨ (p = p' ∧ q ≤ q'))
theorem PCL.uniq {G : Gr} {x k : Nat} {r r' : Int32} (h : PCL G x k r) (h' : PCL G x k r') : r = r' := by
  rcases h with ⟨rfl, h1⟩ | ⟨p, q, rfl, h1, h2, h3⟩
  · rcases h' with ⟨rfl, _⟩ | ⟨p, q, _, h4, h5, _⟩
    · rfl
    · exact absurd h5 (h1 p q h4)
  · rcases h' with ⟨_, h4⟩ | ⟨p', q', rfl, h4, h5, h6⟩
    · exact absurd h2 (h4 p q h1)
    · have a := h3 p' q' h4 h5
      have b := h6 p q h1 h2
      have e1 : p = p' := by omega
      have e2 : q = q' := by omega
      rw [e1, e2]
theorem PCL.none {G : Gr} (w : WG G) {x k : Nat} {r : Int32} (h : PCL G x k r) : r = -9 ↔ NC G x k := by
  rcases h with ⟨rfl, h1⟩ | ⟨p, q, rfl, h1, h2, _⟩
  · exact ⟨fun _ => h1, fun _ => rfl⟩
  · have := w.1.2
    have h3 := h1.2.1
    have h4 := h1.1
    refine ⟨fun h => absurd h (neg_lt (by omega)), fun h => absurd h2 (h p q h1)⟩
def AW (G : Gr) (s : PH) : Prop := ∀ p, p < G.1 → WSt (AG G p) (18 + p) s
theorem firstClash_c {G : Gr} {g : Nat} {s : PH} (h : CG G g s) (w : WG G) (hA : AW G s) {x k n : Nat} (hx : x < 6) (hk : k < 4) (hn : 20 ≤ n) : ∃ r, fX3_firstClash n g (nI x) (nI k) s = some (r, s) ∧ PCL G x k r := by
  have h16 := w.1.2
  obtain ⟨B, E, eB, eE, hBE, hE1, hrng⟩ := begin_c h hx
  have inr : ∀ p q, prx G x p q ↔ B ≤ p ∧ p < q ∧ q < E := by
    intro p q
    constructor
    · rintro ⟨h1, h2, h3, h4⟩
      have a := (hrng p (by omega)).mp h3
      have b := (hrng q h2).mp h4
      omega
    · rintro ⟨h1, h2, h3⟩
      exact ⟨h2, by omega, (hrng p (by omega)).mpr (by omega), (hrng q (by omega)).mpr (by omega)⟩
  have key : wp (fX3_firstClash n g (nI x) (nI k) s) (fun r t => t = s ∧ PCL G x k r) := by
    unfold fX3_firstClash
    simp only [eB, bd_ok, lt_def]
    refine wp_for2 E (by omega) (fun p t => t = s ∧ B ≤ p ∧ ∀ p' q', p' < p → prx G x p' q' → ¬ Mt G k p' q') ?_ ?_ n B s hBE ⟨rfl, Nat.le_refl B, fun p' q' h1 h2 => by have := (inr p' q').mp h2; omega⟩ (by omega)
    · rintro rec p t hp ⟨rfl, hBp, hno⟩ ih
      simp (disch := omega) only [eE, bd_ok, le_ok, if_neg, nI_add]
      refine wp_for2 E (by omega) (fun q t' => t' = t ∧ p + 1 ≤ q ∧ ∀ q', q' < q → prx G x p q' → ¬ Mt G k p q') ?_ ?_ n (p + 1) t (by omega) ⟨rfl, Nat.le_refl _, fun q' h1 h2 => by have := h2.1; omega⟩ (by omega)
      · rintro rec2 q t' hq ⟨rfl, hpq, hno2⟩ ih2
        simp (disch := omega) only [eE, bd_ok, le_ok, if_neg, nI_add, ra_ok]
        obtain ⟨r, e1, e2⟩ := meets_c (hA p (by omega)) (hA q (by omega)) hk (show 10 ≤ n by omega)
        rw [e1, bd_ok]
        have hpr : prx G x p q := (inr p q).mpr ⟨hBp, by omega, hq⟩
        by_cases hr : r = 0
        · rw [if_pos hr]
          refine ih2 _ ⟨rfl, by omega, fun q' h1 h2 => ?_⟩
          by_cases e : q' = q
          · rw [e]; exact e2.eq hr
          · exact hno2 q' (by omega) h2
        · rw [if_neg hr, nI_mulN, nI_add]
          refine wp_some ⟨rfl, Or.inr ⟨p, q, rfl, hpr, e2.ne hr, fun p' q' h1 h2 => ?_⟩⟩
          rcases Nat.lt_or_ge p' p with h3 | h3
          · exact absurd h2 (hno p' q' h3 h1)
          · rcases Nat.lt_or_ge p p' with h4 | h4
            · exact Or.inl h4
            · have : p' = p := by omega
              subst this
              right
              refine ⟨rfl, ?_⟩
              rcases Nat.lt_or_ge q' q with h5 | h5
              · exact absurd h2 (hno2 q' h5 h1)
              · exact h5
      · rintro rec2 t' ⟨rfl, hpq, hno2⟩
        simp (disch := omega) only [eE, bd_ok, le_ok, if_pos, nI_add]
        refine ih _ ⟨rfl, by omega, fun p' q' h1 h2 => ?_⟩
        by_cases e : p' = p
        · subst e
          have := (inr p' q').mp h2
          exact hno2 q' (by omega) h2
        · exact hno p' q' (by omega) h2
    · rintro rec t ⟨rfl, hBp, hno⟩
      simp (disch := omega) only [eE, bd_ok, le_ok, if_pos]
      refine wp_some ⟨rfl, Or.inl ⟨rfl, fun p q h1 => ?_⟩⟩
      have := (inr p q).mp h1
      exact hno p q (by omega) h1
  obtain ⟨r, t, e, rfl, hp⟩ := key
  exact ⟨r, e, hp⟩
def DP (G : Gr) (x : Nat) (r : Int32) : Prop := (∃ k, k < 4 ∧ r = nI k ∧ NC G x k ∧ ∀ k', k' < k → ¬ NC G x k') ∨ (r = -9 ∧ ∀ k, k < 4 → ¬ NC G x k)
theorem DP.uniq {G : Gr} {x : Nat} {r r' : Int32} (h : DP G x r) (h' : DP G x r') : r = r' := by
  rcases h with ⟨k, hk, rfl, h1, h2⟩ | ⟨rfl, h1⟩
  · rcases h' with ⟨k', hk', rfl, h3, h4⟩ | ⟨_, h3⟩
    · rcases Nat.lt_trichotomy k k' with h5 | h5 | h5
      · exact absurd h1 (h4 k h5)
      · rw [h5]
      · exact absurd h3 (h2 k' h5)
    · exact absurd h1 (h3 k hk)
  · rcases h' with ⟨k', hk', _, h3, _⟩ | ⟨rfl, _⟩
    · exact absurd h3 (h1 k' hk')
    · rfl
theorem findDepth_c {G : Gr} {g : Nat} {s : PH} (h : CG G g s) (w : WG G) (hA : AW G s) {x n : Nat} (hx : x < 6) (hn : 20 ≤ n) : ∃ r, fX3_findDepth n g (nI x) s = some (r, s) ∧ DP G x r := by
  have key : wp (fX3_findDepth n g (nI x) s) (fun r t => t = s ∧ DP G x r) := by
    unfold fX3_findDepth
    simp only [lt_def]
    refine wp_for2 4 (by omega) (fun k t => t = s ∧ ∀ k', k' < k → ¬ NC G x k') ?_ ?_ n 0 s (by omega) ⟨rfl, fun k' hk' => absurd hk' (Nat.not_lt_zero k')⟩ (by omega)
    · rintro rec k t hk ⟨rfl, hno⟩ ih
      obtain ⟨r, e1, e2⟩ := firstClash_c h w hA hx hk hn
      simp (disch := omega) only [lt_ok, if_neg, e1, bd_ok, nI_add]
      by_cases hr : r = -9
      · rw [if_pos hr]
        exact wp_some ⟨rfl, Or.inl ⟨k, hk, rfl, (e2.none w).mp hr, hno⟩⟩
      · rw [if_neg hr]
        refine ih _ ⟨rfl, fun k' hk' => ?_⟩
        by_cases e : k' = k
        · rw [e]; exact fun hc => hr ((e2.none w).mpr hc)
        · exact hno k' (by omega)
    · rintro rec t ⟨rfl, hno⟩
      simp (disch := omega) only [lt_ok, if_pos]
      exact wp_some ⟨rfl, Or.inr ⟨rfl, hno⟩⟩
  obtain ⟨r, t, e, rfl, hp⟩ := key
  exact ⟨r, e, hp⟩
noncomputable def ptG (G : Gr) (p q : Nat) : Nat := ptN (AG G p) (AG G q)
def RD (G : Gr) (x : Nat) (r : Int32) : Prop := (r = -9 ∧ ∃ p q, prx G x p q ∧ ptG G p q = 3) ∨ ∃ m, r = nI m ∧ m ≤ 3 ∧ (∀ p q, prx G x p q → ptG G p q + 1 ≤ m) ∧ (m = 0 ∨ ∃ p q, prx G x p q ∧ ptG G p q + 1 = m)
theorem RD.uniq {G : Gr} {x : Nat} {r r' : Int32} (h : RD G x r) (h' : RD G x r') : r = r' := by
  rcases h with ⟨rfl, p, q, h1, h2⟩ | ⟨m, rfl, h1, h2, h3⟩
  · rcases h' with ⟨rfl, _⟩ | ⟨m, _, h3, h4, _⟩
    · rfl
    · have := h4 p q h1
      omega
  · rcases h' with ⟨_, p, q, h4, h5⟩ | ⟨m', rfl, h4, h5, h6⟩
    · have := h2 p q h4
      omega
    · have e : m = m' := by
        rcases h3 with h3 | ⟨p, q, h7, h8⟩
        · rcases h6 with h6 | ⟨p', q', h9, h10⟩
          · omega
          · have := h2 p' q' h9
            omega
        · have := h5 p q h7
          rcases h6 with h6 | ⟨p', q', h9, h10⟩
          · omega
          · have := h2 p' q' h9
            omega
      rw [e]
theorem rough_c {G : Gr} {g : Nat} {s : PH} (h : CG G g s) (w : WG G) (hA : AW G s) {x n : Nat} (hx : x < 6) (hn : 20 ≤ n) : ∃ r, fX3_findRoughDepth n g (nI x) s = some (r, s) ∧ RD G x r := by
  have h16 := w.1.2
  obtain ⟨B, E, eB, eE, hBE, hE1, hrng⟩ := begin_c h hx
  have inr : ∀ p q, prx G x p q ↔ B ≤ p ∧ p < q ∧ q < E := by
    intro p q
    constructor
    · rintro ⟨h1, h2, h3, h4⟩
      have a := (hrng p (by omega)).mp h3
      have b := (hrng q h2).mp h4
      omega
    · rintro ⟨h1, h2, h3⟩
      exact ⟨h2, by omega, (hrng p (by omega)).mpr (by omega), (hrng q (by omega)).mpr (by omega)⟩
  have key : wp (fX3_findRoughDepth n g (nI x) s) (fun r t => t = s ∧ RD G x r) := by
    unfold fX3_findRoughDepth
    simp only [eB, bd_ok, lt_def]
    refine wp_for3 E (by omega) (fun p v t => t = s ∧ B ≤ p ∧ ∃ m, v = nI m ∧ m ≤ 3 ∧ (∀ p' q', p' < p → prx G x p' q' → ptG G p' q' + 1 ≤ m) ∧ (m = 0 ∨ ∃ p q, prx G x p q ∧ ptG G p q + 1 = m)) ?_ ?_ n B _ s hBE ⟨rfl, Nat.le_refl B, 0, rfl, by omega, fun p' q' h1 h2 => by have := (inr p' q').mp h2; omega, Or.inl rfl⟩ (by omega)
    · rintro rec p v t hp ⟨rfl, hBp, m, rfl, hm, hall, hat⟩ ih
      simp (disch := omega) only [eE, bd_ok, le_ok, if_neg, nI_add]
      refine wp_for3 E (by omega) (fun q v t' => t' = t ∧ p + 1 ≤ q ∧ ∃ m, v = nI m ∧ m ≤ 3 ∧ (∀ p' q', p' < p ∨ (p' = p ∧ q' < q) → prx G x p' q' → ptG G p' q' + 1 ≤ m) ∧ (m = 0 ∨ ∃ p q, prx G x p q ∧ ptG G p q + 1 = m)) ?_ ?_ n (p + 1) _ t (by omega) ⟨rfl, Nat.le_refl _, m, rfl, hm, fun p' q' h1 h2 => by
          have := h2.1
          exact hall p' q' (by omega) h2, hat⟩ (by omega)
      · rintro rec2 q v t' hq ⟨rfl, hpq, m, rfl, hm, hall, hat⟩ ih2
        have hpr : prx G x p q := (inr p q).mpr ⟨hBp, by omega, hq⟩
        simp (disch := omega) only [eE, bd_ok, le_ok, if_neg, nI_add, ra_ok]
        rw [parting_c (hA p (by omega)) (hA q (by omega)) (by omega), bd_ok]
        have hle := ptN_le (AG G p) (AG G q)
        by_cases h3 : ptN (AG G p) (AG G q) = 3
        · rw [if_pos h3, if_pos rfl]
          exact wp_some ⟨rfl, Or.inl ⟨rfl, p, q, hpr, h3⟩⟩
        · rw [if_neg h3, if_neg (neg_lt (by omega))]
          simp (disch := omega) only [nI_add, lt_ok]
          have fin : ∀ m', (m' = m ∧ ptN (AG G p) (AG G q) + 1 ≤ m) ∨ (m' = ptN (AG G p) (AG G q) + 1 ∧ m < m') → wp (rec2 (nI m') (nI (q + 1)) t') (fun r t => t = t' ∧ RD G x r) := by
            intro m' hm'
            refine ih2 _ _ ⟨rfl, by omega, m', rfl, by omega, fun p' q' h1 h2 => ?_, ?_⟩
            · by_cases e : p' = p ∧ q' = q
              · obtain ⟨rfl, rfl⟩ := e
                unfold ptG
                omega
              · have := hall p' q' (by omega) h2
                omega
            · rcases hm' with ⟨rfl, _⟩ | ⟨e, _⟩
              · exact hat
              · exact Or.inr ⟨p, q, hpr, e.symm⟩
          split
          · exact fin _ (by omega)
          · exact fin _ (by omega)
      · rintro rec2 v t' ⟨rfl, hpq, m, rfl, hm, hall, hat⟩
        simp (disch := omega) only [eE, bd_ok, le_ok, if_pos, nI_add]
        refine ih _ _ ⟨rfl, by omega, m, rfl, hm, fun p' q' h1 h2 => ?_, hat⟩
        have := (inr p' q').mp h2
        exact hall p' q' (by omega) h2
    · rintro rec v t ⟨rfl, hBp, m, rfl, hm, hall, hat⟩
      simp (disch := omega) only [eE, bd_ok, le_ok, if_pos]
      refine wp_some ⟨rfl, Or.inr ⟨m, rfl, hm, fun p q h1 => ?_, hat⟩⟩
      have := (inr p q).mp h1
      exact hall p q (by omega) h1
  obtain ⟨r, t, e, rfl, hp⟩ := key
  exact ⟨r, e, hp⟩
