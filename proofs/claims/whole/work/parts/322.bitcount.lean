/-! ===== how many bits a long has ===== -/
def kC (c : Nat) : Nat → Nat
  | 0 => 0
  | j + 1 => 256 * kC c j + c
theorem and_byte {a b c d : Nat} (hb : b < 256) (hd : d < 256) : ((256 * a + b) &&& (256 * c + d)) = 256 * (a &&& c) + (b &&& d) := by
  apply Nat.eq_of_testBit_eq
  intro i
  have h2 : (b &&& d) < 2 ^ 8 := Nat.lt_of_le_of_lt Nat.and_le_left hb
  rw [Nat.testBit_and, show 256 * a + b = 2 ^ 8 * a + b by rfl, show 256 * c + d = 2 ^ 8 * c + d by rfl, show 256 * (a &&& c) + (b &&& d) = 2 ^ 8 * (a &&& c) + (b &&& d) by rfl, Nat.testBit_two_pow_mul_add a hb, Nat.testBit_two_pow_mul_add c hd, Nat.testBit_two_pow_mul_add (a &&& c) h2]
  split
  · rw [Nat.testBit_and]
  · rw [Nat.testBit_and]
def g1 (j m : Nat) : Nat := m - (m / 2 &&& kC 85 j)
def g2 (j m : Nat) : Nat := (m &&& kC 51 j) + (m / 4 &&& kC 51 j)
def g3 (j m : Nat) : Nat := (m + m / 16) &&& kC 15 j
def h1 (b : Nat) : Nat := b - (b / 2 &&& 85)
def h2 (b : Nat) : Nat := (b &&& 51) + (b / 4 &&& 51)
def h3 (b : Nat) : Nat := (b + b / 16) &&& 15
theorem g1_s (j a : Nat) {b : Nat} (hb : b < 256) : g1 (j + 1) (256 * a + b) = 256 * g1 j a + h1 b := by
  have e : (256 * a + b) / 2 = 256 * (a / 2) + (128 * (a % 2) + b / 2) := by omega
  have k : ∀ (z : Fin 2) (b : Fin 256), (128 * z.val + b.val / 2 &&& 85) = (b.val / 2 &&& 85) := by decide +kernel
  have k' : (128 * (a % 2) + b / 2 &&& 85) = (b / 2 &&& 85) := k ⟨a % 2, by omega⟩ ⟨b, hb⟩
  have l1 : (a / 2 &&& kC 85 j) ≤ a / 2 := Nat.and_le_left
  have l2 : (b / 2 &&& 85) ≤ b / 2 := Nat.and_le_left
  show 256 * a + b - ((256 * a + b) / 2 &&& (256 * kC 85 j + 85)) = 256 * (a - (a / 2 &&& kC 85 j)) + (b - (b / 2 &&& 85))
  rw [e, and_byte (by omega) (by omega), k']
  omega
theorem h1_lt {b : Nat} (hb : b < 256) : h1 b < 256 := by
  unfold h1
  omega
theorem g2_s (j a : Nat) {b : Nat} (hb : b < 256) : g2 (j + 1) (256 * a + b) = 256 * g2 j a + h2 b := by
  have e : (256 * a + b) / 4 = 256 * (a / 4) + (64 * (a % 4) + b / 4) := by omega
  have k : ∀ (z : Fin 4) (b : Fin 256), (64 * z.val + b.val / 4 &&& 51) = (b.val / 4 &&& 51) := by decide +kernel
  have k' : (64 * (a % 4) + b / 4 &&& 51) = (b / 4 &&& 51) := k ⟨a % 4, by omega⟩ ⟨b, hb⟩
  show ((256 * a + b) &&& (256 * kC 51 j + 51)) + ((256 * a + b) / 4 &&& (256 * kC 51 j + 51)) = 256 * ((a &&& kC 51 j) + (a / 4 &&& kC 51 j)) + ((b &&& 51) + (b / 4 &&& 51))
  rw [e, and_byte (by omega) (by omega), and_byte (by omega) (by omega), k']
  omega
theorem g3_s (j a : Nat) {b : Nat} (hb : b < 80) (ha : a % 16 ≤ 4) : g3 (j + 1) (256 * a + b) = 256 * g3 j a + h3 b := by
  have e : 256 * a + b + (256 * a + b) / 16 = 256 * (a + a / 16) + (16 * (a % 16) + (b + b / 16)) := by omega
  have k : ∀ (z : Fin 5) (b : Fin 80), (16 * z.val + (b.val + b.val / 16) &&& 15) = (b.val + b.val / 16 &&& 15) := by decide +kernel
  have k' : (16 * (a % 16) + (b + b / 16) &&& 15) = (b + b / 16 &&& 15) := k ⟨a % 16, by omega⟩ ⟨b, hb⟩
  show ((256 * a + b + (256 * a + b) / 16) &&& (256 * kC 15 j + 15)) = 256 * ((a + a / 16) &&& kC 15 j) + ((b + b / 16) &&& 15)
  rw [e, and_byte (by omega) (by omega), k']
/-- the bits of a byte -/
def bb (b : Nat) : Nat := cn (fun i => b.testBit i) 8
theorem h123 {b : Nat} (hb : b < 256) : h3 (h2 (h1 b)) = bb b ∧ h2 (h1 b) < 80 ∧ h2 (h1 b) % 16 ≤ 4 ∧ bb b ≤ 8 := by
  have : ∀ b : Fin 256, h3 (h2 (h1 b.val)) = bb b.val ∧ h2 (h1 b.val) < 80 ∧ h2 (h1 b.val) % 16 ≤ 4 ∧ bb b.val ≤ 8 := by decide +kernel
  exact this ⟨b, hb⟩
theorem g123 (b0 b1 b2 b3 b4 : Nat) (k0 : b0 < 256) (k1 : b1 < 256) (k2 : b2 < 256) (k3 : b3 < 256) (k4 : b4 < 256) : g3 8 (g2 8 (g1 8 (256 * (256 * (256 * (256 * (256 * 0 + b4) + b3) + b2) + b1) + b0))) = 256 * (256 * (256 * (256 * bb b4 + bb b3) + bb b2) + bb b1) + bb b0 := by
  obtain ⟨p0, q0, r0, _⟩ := h123 k0
  obtain ⟨p1, q1, r1, _⟩ := h123 k1
  obtain ⟨p2, q2, r2, _⟩ := h123 k2
  obtain ⟨p3, q3, r3, _⟩ := h123 k3
  obtain ⟨p4, q4, r4, _⟩ := h123 k4
  rw [g1_s 7 _ k0, g1_s 6 _ k1, g1_s 5 _ k2, g1_s 4 _ k3, g1_s 3 _ k4]
  rw [g2_s 7 _ (h1_lt k0), g2_s 6 _ (h1_lt k1), g2_s 5 _ (h1_lt k2), g2_s 4 _ (h1_lt k3), g2_s 3 _ (h1_lt k4)]
  have e0 : g1 3 0 = 0 := by decide +kernel
  have e2 : g2 3 0 = 0 := by decide +kernel
  have e3 : g3 3 0 = 0 := by decide +kernel
  rw [e0, e2, g3_s 7 _ q0 (by omega), g3_s 6 _ q1 (by omega), g3_s 5 _ q2 (by omega), g3_s 4 _ q3 (by omega), g3_s 3 _ q4 (by omega), e3, p0, p1, p2, p3, p4, Nat.mul_zero, Nat.zero_add]
theorem lN_and (a b : Nat) : (lN a &&& lN b) = lN (a &&& b) := by
  unfold lN
  rw [← Int64.toBitVec_inj]
  apply BitVec.eq_of_getLsbD_eq
  intro i hi
  simp [hi]
theorem lN_shru {m k : Nat} (hm : m < 9223372036854775808) (hk : k < 64) : ((lN m).toUInt64 >>> ((nI k).toInt64.toUInt64 &&& Int64.toUInt64 63)).toInt64 = lN (m / 2 ^ k) := by
  have e : ((nI k).toInt64.toUInt64 &&& Int64.toUInt64 63) = UInt64.ofNat k := by
    have : ∀ k : Fin 64, ((nI k.val).toInt64.toUInt64 &&& Int64.toUInt64 63) = UInt64.ofNat k.val := by decide +kernel
    exact this ⟨k, hk⟩
  rw [e]
  have e2 : (lN m).toUInt64 = UInt64.ofNat m := rfl
  rw [e2]
  have e3 : UInt64.ofNat m >>> UInt64.ofNat k = UInt64.ofNat (m / 2 ^ k) := by
    apply UInt64.toNat_inj.mp
    rw [UInt64.toNat_shiftRight, UInt64.toNat_ofNat', UInt64.toNat_ofNat', UInt64.toNat_ofNat', Nat.mod_eq_of_lt (by omega), Nat.mod_eq_of_lt (a := k) (by omega), Nat.mod_eq_of_lt (a := k) (by omega), Nat.shiftRight_eq_div_pow, Nat.mod_eq_of_lt (Nat.lt_of_le_of_lt (Nat.div_le_self _ _) (by omega))]
  rw [e3]
  rfl
theorem lN_subN {a b : Nat} (h : b ≤ a) : lN a - lN b = lN (a - b) := by
  have e : lN a = lN (a - b) + lN b := by rw [lN_add]; congr 1; omega
  rw [e]
  simp
theorem cn_split (P : Nat → Bool) (a : Nat) : ∀ b, cn P (a + b) = cn P a + cn (fun i => P (a + i)) b
  | 0 => rfl
  | b + 1 => by
    have ih := cn_split P a b
    have e1 : cn P (a + (b + 1)) = cn P (a + b) + if P (a + b) = true then 1 else 0 := rfl
    have e2 : cn (fun i => P (a + i)) (b + 1) = cn (fun i => P (a + i)) b + if P (a + b) = true then 1 else 0 := rfl
    rw [e1, e2, ih]
    omega
theorem cn_congr {P Q : Nat → Bool} : ∀ n, (∀ k, k < n → P k = Q k) → cn P n = cn Q n
  | 0, _ => rfl
  | n + 1, h => by
    have e : cn P n = cn Q n := cn_congr n (fun k hk => h k (by omega))
    unfold cn
    rw [e, h n (by omega)]
theorem bitCount_c {m : Nat} (hm : m < 2 ^ 40) (s : PH) : fJ13_bitCount_95d88 (lN m) s = some (nI (cn (fun i => m.testBit i) 40), s) := by
  have hm' : m < 1099511627776 := hm
  -- the bytes
  have hb : ∃ b0 b1 b2 b3 b4, b0 < 256 ∧ b1 < 256 ∧ b2 < 256 ∧ b3 < 256 ∧ b4 < 256 ∧ m = 256 * (256 * (256 * (256 * (256 * 0 + b4) + b3) + b2) + b1) + b0 := ⟨m % 256, m / 256 % 256, m / 65536 % 256, m / 16777216 % 256, m / 4294967296, by omega, by omega, by omega, by omega, by omega, by omega⟩
  obtain ⟨b0, b1, b2, b3, b4, k0, k1, k2, k3, k4, em⟩ := hb
  have e3 := g123 b0 b1 b2 b3 b4 k0 k1 k2 k3 k4
  rw [← em] at e3
  have l1 : g1 8 m ≤ m := Nat.sub_le _ _
  have l2 : g2 8 (g1 8 m) ≤ 2 * m := by
    have x1 : (g1 8 m &&& kC 51 8) ≤ g1 8 m := Nat.and_le_left
    have x2 : (g1 8 m / 4 &&& kC 51 8) ≤ g1 8 m / 4 := Nat.and_le_left
    unfold g2
    omega
  have c1 : (6148914691236517205 : Int64) = lN (kC 85 8) := by decide +kernel
  have c2 : (3689348814741910323 : Int64) = lN (kC 51 8) := by decide +kernel
  have c3 : (1085102592571150095 : Int64) = lN (kC 15 8) := by decide +kernel
  have y0 := (h123 k0).2.2.2
  have y1 := (h123 k1).2.2.2
  have y2 := (h123 k2).2.2.2
  have y3 := (h123 k3).2.2.2
  have y4 := (h123 k4).2.2.2
  unfold fJ13_bitCount_95d88
  simp only [lt_def]
  rw [lN_shru (k := 1) (by omega) (by decide), c1, lN_and, lN_subN (Nat.le_trans Nat.and_le_left (Nat.div_le_self _ _))]
  rw [show m - (m / 2 ^ 1 &&& kC 85 8) = g1 8 m by rfl]
  rw [lN_shru (k := 2) (by omega) (by decide), c2, lN_and, lN_and, lN_add]
  rw [show (g1 8 m &&& kC 51 8) + (g1 8 m / 2 ^ 2 &&& kC 51 8) = g2 8 (g1 8 m) by rfl]
  rw [lN_shru (k := 4) (by omega) (by decide), lN_add, c3, lN_and]
  rw [show (g2 8 (g1 8 m) + g2 8 (g1 8 m) / 2 ^ 4 &&& kC 15 8) = g3 8 (g2 8 (g1 8 m)) by rfl, e3]
  have z3 : 256 * (256 * (256 * (256 * bb b4 + bb b3) + bb b2) + bb b1) + bb b0 < 68719476736 := by omega
  generalize hx3 : 256 * (256 * (256 * (256 * bb b4 + bb b3) + bb b2) + bb b1) + bb b0 = x3 at *
  rw [lN_shru (k := 8) (by omega) (by decide), lN_add]
  rw [lN_shru (k := 16) (by omega) (by decide), lN_add]
  rw [lN_shru (k := 32) (by omega) (by decide), lN_add]
  rw [lN_i, nI_and, show (127 : Nat) = 2 ^ 7 - 1 by rfl, Nat.and_two_pow_sub_one_eq_mod]
  have ec : cn (fun i => m.testBit i) 40 = bb b0 + bb b1 + bb b2 + bb b3 + bb b4 := by
    have t : ∀ a b i, b < 256 → i < 8 → (256 * a + b).testBit i = b.testBit i := by
      intro a b i hb hi
      rw [show 256 * a + b = 2 ^ 8 * a + b by rfl, Nat.testBit_two_pow_mul_add a hb, if_pos hi]
    have u : ∀ a b i, b < 256 → (256 * a + b).testBit (8 + i) = a.testBit i := by
      intro a b i hb
      rw [show 256 * a + b = 2 ^ 8 * a + b by rfl, Nat.testBit_two_pow_mul_add a hb, if_neg (by omega), Nat.add_sub_cancel_left]
    have blk : ∀ a b n, b < 256 → cn (fun i => (256 * a + b).testBit i) (8 + n) = bb b + cn (fun i => a.testBit i) n := by
      intro a b n hb
      rw [cn_split]
      congr 1
      · exact cn_congr 8 (fun i hi => t a b i hb hi)
      · exact cn_congr n (fun i _ => u a b i hb)
    rw [em, show 40 = 8 + 32 by rfl, blk _ _ _ k0, show 32 = 8 + 24 by rfl, blk _ _ _ k1, show 24 = 8 + 16 by rfl, blk _ _ _ k2, show 16 = 8 + 8 by rfl, blk _ _ _ k3, show 8 = 8 + 0 by rfl, blk _ _ _ k4]
    show _ = _
    simp only [cn]
    omega
  rw [ec]
  congr 3
  have p8 : (2 : Nat) ^ 8 = 256 := rfl
  have p16 : (2 : Nat) ^ 16 = 65536 := rfl
  have p32 : (2 : Nat) ^ 32 = 4294967296 := rfl
  have p7 : (2 : Nat) ^ 7 = 128 := rfl
  rw [p8, p16, p32, p7]
  have w1 : x3 / 256 = 256 * (256 * (256 * bb b4 + bb b3) + bb b2) + bb b1 := by omega
  have w2 : (x3 + x3 / 256) / 65536 = (bb b2 + bb b3) + 256 * (bb b3 + bb b4) + 65536 * bb b4 := by rw [w1, ← hx3]; omega
  have w3 : (x3 + x3 / 256 + (x3 + x3 / 256) / 65536) / 4294967296 = bb b4 := by rw [w2, w1, ← hx3]; omega
  rw [w3, w2, w1, ← hx3]
  omega
