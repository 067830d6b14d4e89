/-! ===== the class: bits of longs ===== -/
def tb (v : Int64) (c : Nat) : Bool := v.toBitVec.getLsbD c
theorem tb_or (u v : Int64) (c : Nat) : tb (u ||| v) c = (tb u c || tb v c) := by
  unfold tb
  rw [Int64.toBitVec_or, BitVec.getLsbD_or]
theorem tb_and (u v : Int64) (c : Nat) : tb (u &&& v) c = (tb u c && tb v c) := by
  unfold tb
  rw [Int64.toBitVec_and, BitVec.getLsbD_and]
theorem tb_ge (u : Int64) {c : Nat} (h : 64 ≤ c) : tb u c = false := BitVec.getLsbD_of_ge _ _ h
theorem tb_not (u : Int64) (c : Nat) : tb (u ^^^ (-1)) c = (decide (c < 64) && !tb u c) := by
  by_cases h : c < 64
  · unfold tb
    rw [Int64.toBitVec_xor, BitVec.getLsbD_xor]
    have e : (-1 : Int64).toBitVec.getLsbD c = true := by
      have : ∀ c : Fin 64, (-1 : Int64).toBitVec.getLsbD c.val = true := by decide +kernel
      exact this ⟨c, h⟩
    rw [e]
    simp [h]
  · rw [tb_ge _ (by omega)]
    simp [h]
theorem tb_ext {u v : Int64} (h : ∀ c, c < 64 → tb u c = tb v c) : u = v := by
  rw [← Int64.toBitVec_inj]
  exact BitVec.eq_of_getLsbD_eq (fun i hi => h i hi)
theorem tb_0 (c : Nat) : tb 0 c = false := by
  by_cases h : c < 64
  · have : ∀ c : Fin 64, tb 0 c.val = false := by decide +kernel
    exact this ⟨c, h⟩
  · exact tb_ge _ (by omega)
theorem tb_1 (c : Nat) : tb 1 c = decide (c = 0) := by
  by_cases h : c < 64
  · have : ∀ c : Fin 64, tb 1 c.val = decide (c.val = 0) := by decide +kernel
    exact this ⟨c, h⟩
  · rw [tb_ge _ (by omega), decide_eq_false (by omega)]
theorem tb_62 (c : Nat) : tb 62 c = decide (1 ≤ c ∧ c < 6) := by
  by_cases h : c < 64
  · have : ∀ c : Fin 64, tb 62 c.val = decide (1 ≤ c.val ∧ c.val < 6) := by decide +kernel
    exact this ⟨c, h⟩
  · rw [tb_ge _ (by omega), decide_eq_false (by omega)]
theorem tb_63 (c : Nat) : tb 63 c = decide (c < 6) := by
  by_cases h : c < 64
  · have : ∀ c : Fin 64, tb 63 c.val = decide (c.val < 6) := by decide +kernel
    exact this ⟨c, h⟩
  · rw [tb_ge _ (by omega), decide_eq_false (by omega)]
theorem tb_m64 (c : Nat) : tb (-64) c = decide (6 ≤ c ∧ c < 64) := by
  by_cases h : c < 64
  · have : ∀ c : Fin 64, tb (-64) c.val = decide (6 ≤ c.val ∧ c.val < 64) := by decide +kernel
    exact this ⟨c, h⟩
  · rw [tb_ge _ (by omega), decide_eq_false (by omega)]
theorem tb_m2 (c : Nat) : tb (-2) c = decide (1 ≤ c ∧ c < 64) := by
  by_cases h : c < 64
  · have : ∀ c : Fin 64, tb (-2) c.val = decide (1 ≤ c.val ∧ c.val < 64) := by decide +kernel
    exact this ⟨c, h⟩
  · rw [tb_ge _ (by omega), decide_eq_false (by omega)]
theorem sh_k {k : Nat} (hk : k < 64) : ((nI k).toInt64 &&& 63).toBitVec.smod 64 = BitVec.ofNat 64 k := by
  have : ∀ k : Fin 64, ((nI k.val).toInt64 &&& 63).toBitVec.smod 64 = BitVec.ofNat 64 k.val := by decide +kernel
  exact this ⟨k, hk⟩
theorem tb_shl (u : Int64) {k : Nat} (hk : k < 64) (c : Nat) : tb (u <<< ((nI k).toInt64 &&& 63)) c = (decide (c < 64) && decide (k ≤ c) && tb u (c - k)) := by
  unfold tb
  rw [Int64.toBitVec_shiftLeft, sh_k hk, BitVec.shiftLeft_eq', BitVec.getLsbD_shiftLeft, BitVec.toNat_ofNat, Nat.mod_eq_of_lt (by omega)]
  by_cases h : c < k
  · simp [h, show ¬ k ≤ c by omega]
  · simp [h, show k ≤ c by omega]
theorem tb_shr (u : Int64) {k : Nat} (hk : k < 64) {c : Nat} (hc : k + c < 64) : tb (u >>> ((nI k).toInt64 &&& 63)) c = tb u (k + c) := by
  unfold tb
  rw [Int64.toBitVec_shiftRight, sh_k hk, BitVec.sshiftRight_eq', BitVec.getLsbD_sshiftRight, BitVec.toNat_ofNat, Nat.mod_eq_of_lt (by omega)]
  simp [hc, show ¬ 64 ≤ c by omega]
/-- bit k of u -/
theorem bit_l (u : Int64) {k : Nat} (hk : k < 64) : ((u >>> ((nI k).toInt64 &&& 63)) &&& 1 = 0) = (tb u k = false) := by
  apply propext
  constructor
  · intro h
    have h1 := congrArg (fun x => tb x 0) h
    rw [tb_and, tb_shr u hk (by omega), tb_1, tb_0] at h1
    simpa using h1
  · intro h
    apply tb_ext
    intro c hc
    rw [tb_and, tb_1, tb_0]
    by_cases e : c = 0
    · subst e
      rw [tb_shr u hk (by omega)]
      simp [h]
    · simp [e]
theorem tb_z (u : Int64) : u = 0 ↔ ∀ c, c < 64 → tb u c = false := by
  constructor
  · intro h c _
    rw [h, tb_0]
  · intro h
    apply tb_ext
    intro c hc
    rw [h c hc, tb_0]
/-- the bits of v stand for what P says -/
def LB (v : Int64) (P : Nat → Prop) : Prop := ∀ c, tb v c = true ↔ P c
theorem LB.lt {v : Int64} {P : Nat → Prop} (h : LB v P) {c : Nat} (hc : P c) : c < 64 := by
  rcases Nat.lt_or_ge c 64 with h1 | h1
  · exact h1
  · have := (h c).mpr hc
    rw [tb_ge _ h1] at this
    cases this
theorem LB.of {v : Int64} {P Q : Nat → Prop} (h : LB v P) (e : ∀ c, P c ↔ Q c) : LB v Q := fun c => (h c).trans (e c)
theorem LB.or {u v : Int64} {P Q : Nat → Prop} (h : LB u P) (h' : LB v Q) : LB (u ||| v) (fun c => P c ∨ Q c) := by
  intro c
  rw [tb_or, Bool.or_eq_true, h c, h' c]
theorem LB.and {u v : Int64} {P Q : Nat → Prop} (h : LB u P) (h' : LB v Q) : LB (u &&& v) (fun c => P c ∧ Q c) := by
  intro c
  rw [tb_and, Bool.and_eq_true, h c, h' c]
theorem LB.zero : LB 0 (fun _ => False) := by
  intro c
  rw [tb_0]
  simp
theorem LB.z {v : Int64} {P : Nat → Prop} (h : LB v P) : v = 0 ↔ ∀ c, ¬ P c := by
  rw [tb_z]
  constructor
  · intro h1 c hc
    have h2 := (h c).mpr hc
    rw [h1 c (h.lt hc)] at h2
    cases h2
  · intro h1 c _
    cases hb : tb v c with
    | false => rfl
    | true => exact absurd ((h c).mp hb) (h1 c)
theorem LB.not {u v : Int64} {P Q : Nat → Prop} (h : LB u P) (h' : LB v Q) : LB (u &&& (v ^^^ (-1))) (fun c => P c ∧ ¬ Q c) := by
  intro c
  rw [tb_and, tb_not, Bool.and_eq_true, h c]
  constructor
  · rintro ⟨h1, h2⟩
    refine ⟨h1, fun h3 => ?_⟩
    have := (h' c).mpr h3
    simp [this] at h2
  · rintro ⟨h1, h2⟩
    refine ⟨h1, ?_⟩
    have h3 : tb v c = false := by
      cases hb : tb v c with
      | false => rfl
      | true => exact absurd ((h' c).mp hb) h2
    simp [h3, h.lt h1]
theorem LB.uniq {u v : Int64} {P : Nat → Prop} (h : LB u P) (h' : LB v P) : u = v := by
  apply tb_ext
  intro c _
  have := (h c).trans (h' c).symm
  cases h1 : tb u c <;> cases h2 : tb v c <;> simp_all
