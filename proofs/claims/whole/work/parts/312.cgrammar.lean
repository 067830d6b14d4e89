/-! ===== THE CLASS: masks of six bits ===== -/
def mkB (b0 b1 b2 b3 b4 b5 : Bool) : Nat := b0.toNat + 2 * b1.toNat + 4 * b2.toNat + 8 * b3.toNat + 16 * b4.toNat + 32 * b5.toNat
def mk (b : Nat → Bool) : Nat := mkB (b 0) (b 1) (b 2) (b 3) (b 4) (b 5)
theorem mk_congr {a b : Nat → Bool} (h : ∀ x, x < 6 → a x = b x) : mk a = mk b := by
  unfold mk
  rw [h 0 (by decide), h 1 (by decide), h 2 (by decide), h 3 (by decide), h 4 (by decide), h 5 (by decide)]
theorem mk_lt (b : Nat → Bool) : mk b < 64 := by
  unfold mk mkB
  have h (c : Bool) : c.toNat ≤ 1 := by cases c <;> decide
  have := h (b 0)
  have := h (b 1)
  have := h (b 2)
  have := h (b 3)
  have := h (b 4)
  have := h (b 5)
  omega
theorem six {x : Nat} (hx : x < 6) : x = 0 ∨ x = 1 ∨ x = 2 ∨ x = 3 ∨ x = 4 ∨ x = 5 := by omega
theorem mk_bit (b : Nat → Bool) {x : Nat} (hx : x < 6) : ((nI (mk b) >>> (nI x &&& 31)) &&& nI 1) = bI (b x) := by
  unfold mk
  rcases six hx with rfl | rfl | rfl | rfl | rfl | rfl
  all_goals
    generalize b 0 = b0
    generalize b 1 = b1
    generalize b 2 = b2
    generalize b 3 = b3
    generalize b 4 = b4
    generalize b 5 = b5
    revert b0 b1 b2 b3 b4 b5
    decide +kernel
theorem mk_sh {x : Nat} (hx : x < 6) : (nI 1 <<< (nI x &&& 31)) = nI (mk (fun i => decide (i = x))) := by
  rcases six hx with rfl | rfl | rfl | rfl | rfl | rfl <;> decide +kernel
theorem mk_orB : ∀ a0 a1 a2 a3 a4 a5 b0 b1 b2 b3 b4 b5 : Bool, (mkB a0 a1 a2 a3 a4 a5 ||| mkB b0 b1 b2 b3 b4 b5) = mkB (a0 || b0) (a1 || b1) (a2 || b2) (a3 || b3) (a4 || b4) (a5 || b5) := by decide +kernel
theorem mk_andB : ∀ a0 a1 a2 a3 a4 a5 b0 b1 b2 b3 b4 b5 : Bool, (mkB a0 a1 a2 a3 a4 a5 &&& mkB b0 b1 b2 b3 b4 b5) = mkB (a0 && b0) (a1 && b1) (a2 && b2) (a3 && b3) (a4 && b4) (a5 && b5) := by decide +kernel
theorem nI_or (a b : Nat) : (nI a ||| nI b) = nI (a ||| b) := by
  unfold nI
  rw [← Int32.toBitVec_inj]
  apply BitVec.eq_of_getLsbD_eq
  intro i hi
  simp [hi]
theorem nI_and (a b : Nat) : (nI a &&& nI b) = nI (a &&& b) := by
  unfold nI
  rw [← Int32.toBitVec_inj]
  apply BitVec.eq_of_getLsbD_eq
  intro i hi
  simp [hi]
theorem mk_or (a b : Nat → Bool) : (nI (mk a) ||| nI (mk b)) = nI (mk (fun i => a i || b i)) := by
  rw [nI_or]
  unfold mk
  rw [mk_orB]
theorem mk_and (a b : Nat → Bool) : (nI (mk a) &&& nI (mk b)) = nI (mk (fun i => a i && b i)) := by
  rw [nI_and]
  unfold mk
  rw [mk_andB]
theorem mk_set (b : Nat → Bool) {x : Nat} (hx : x < 6) : (nI (mk b) ||| (nI 1 <<< (nI x &&& 31))) = nI (mk (fun i => b i || decide (i = x))) := by rw [mk_sh hx, mk_or]
theorem mk_no : nI (mk (fun _ => false)) = nI 0 := by decide +kernel
theorem mk_0 (b : Nat → Bool) : (nI (mk b) = 0) ↔ ∀ x, x < 6 → b x = false := by
  rw [eq0_ok (Nat.lt_trans (mk_lt b) (by decide))]
  constructor
  · intro h x hx
    unfold mk mkB at h
    have e : ∀ c : Bool, c.toNat = 0 → c = false := by decide
    rcases six hx with rfl | rfl | rfl | rfl | rfl | rfl <;> exact e _ (by omega)
  · intro h
    unfold mk
    rw [h 0 (by decide), h 1 (by decide), h 2 (by decide), h 3 (by decide), h 4 (by decide), h 5 (by decide)]
    rfl
/-- how many of the first n are so -/
def bcn (b : Nat → Bool) : Nat → Nat
  | 0 => 0
  | n + 1 => bcn b n + (b n).toNat
theorem mk_bc (b : Nat → Bool) (s : PH) : fJ6_bitCount_0f7a4 (nI (mk b)) s = some (nI (bcn b 6), s) := by
  unfold fJ6_bitCount_0f7a4
  simp only [lt_def]
  have key : ∀ b0 b1 b2 b3 b4 b5 : Bool, (fJ6_bitCount_0f7a4 (nI (mkB b0 b1 b2 b3 b4 b5)) ((fun _ _ => 0), (fun _ _ => 0), (fun _ _ => 0))).map (fun x => x.1) = some (nI (b0.toNat + b1.toNat + b2.toNat + b3.toNat + b4.toNat + b5.toNat)) := by decide +kernel
  have h := key (b 0) (b 1) (b 2) (b 3) (b 4) (b 5)
  unfold fJ6_bitCount_0f7a4 at h
  simp only [lt_def, Option.map_some, Option.some.injEq] at h
  unfold mk
  rw [h]
  simp only [bcn, Nat.zero_add]
/-! ===== the class's grammars ===== -/
def dfb (G : Gr) (x : Nat) : Bool := decide (0 < cntP G x G.1)
/-- the productions of x are those from B on, before E -/
def rng (G : Gr) (x B E : Nat) : Prop := B ≤ E ∧ E ≤ G.1 ∧ ∀ p, p < G.1 → (G.2.1 p = x ↔ B ≤ p ∧ p < E)
/-- the class's cells of a grammar hold this one -/
def CGf (G : Gr) (f0 f1 f2 f3 f4 f5 : Nat → Int32) : Prop := (f0 5 = nI G.1 ∧ f0 6 = nI (mk (dfb G))) ∧ (∀ p, p < G.1 → f1 p = nI (G.2.1 p) ∧ f2 p = nI (G.2.2.1 p) ∧ ∀ i, i < G.2.2.1 p → f3 (5 * p + i) = nI (G.2.2.2 p i)) ∧ ∀ x, x < 6 → ∃ B E, f4 x = nI B ∧ f5 x = nI E ∧ rng G x B E
def CG (G : Gr) (g : Nat) (s : PH) : Prop := CGf G (s.1 (gId g 0)) (s.1 (gId g 1)) (s.1 (gId g 2)) (s.1 (gId g 3)) (s.1 (gId g 4)) (s.1 (gId g 5))
theorem CG.fr {G : Gr} {g : Nat} {P : Nat → Prop} {s t : PH} (h : CG G g s) (hf : Fr P s t) (hP : ∀ k, k < 6 → ¬ P (gId g k)) : CG G g t := by
  unfold CG
  rw [(hf _ (hP 0 (by decide))).1, (hf _ (hP 1 (by decide))).1, (hf _ (hP 2 (by decide))).1, (hf _ (hP 3 (by decide))).1, (hf _ (hP 4 (by decide))).1, (hf _ (hP 5 (by decide))).1]
  exact h
section
variable {G : Gr} {g : Nat} {s : PH}
theorem count_c (h : CG G g s) : fX4_count g s = some (nI G.1, s) := by
  unfold fX4_count
  rw [h.1.1]
theorem defined_c (h : CG G g s) : fX4_defined g s = some (nI (mk (dfb G)), s) := by
  unfold fX4_defined
  rw [h.1.2]
theorem left_c (h : CG G g s) (w : WG G) {p : Nat} (hp : p < G.1) : fX4_left g (nI p) s = some (nI (G.2.1 p), s) := by
  have := w.1.2
  unfold fX4_left
  simp (disch := omega) only [ra_ok]
  rw [(h.2.1 p hp).1]
theorem length_c (h : CG G g s) (w : WG G) {p : Nat} (hp : p < G.1) : fX4_length g (nI p) s = some (nI (G.2.2.1 p), s) := by
  have := w.1.2
  unfold fX4_length
  simp (disch := omega) only [ra_ok]
  rw [(h.2.1 p hp).2.1]
theorem symbolAt_c (h : CG G g s) (w : WG G) {p i : Nat} (hp : p < G.1) (hi : i < G.2.2.1 p) : fX4_symbolAt g (nI p) (nI i) s = some (nI (G.2.2.2 p i), s) := by
  have h1 := w.1.2
  have h2 := (w.2.1 p hp).2
  unfold fX4_symbolAt
  simp (disch := omega) only [nI_mulN, nI_add, ra_ok]
  rw [Nat.mul_comm p 5, (h.2.1 p hp).2.2 i hi]
theorem start_c (h : CG G g s) (w : WG G) : fX4_start g s = some (nI (G.2.1 0), s) := by
  unfold fX4_start
  simp (disch := omega) only [ra_ok]
  rw [(h.2.1 0 w.1.1).1]
theorem begin_c (h : CG G g s) {x : Nat} (hx : x < 6) : ∃ B E, fX4_begin g (nI x) s = some (nI B, s) ∧ fX4_end g (nI x) s = some (nI E, s) ∧ rng G x B E := by
  obtain ⟨B, E, h1, h2, h3⟩ := h.2.2 x hx
  refine ⟨B, E, ?_, ?_, h3⟩
  · unfold fX4_begin
    simp (disch := omega) only [ra_ok]
    rw [h1]
  · unfold fX4_end
    simp (disch := omega) only [ra_ok]
    rw [h2]
end
theorem isLetter_c {y : Nat} (hy : y < 100) (s : PH) : fX11_isLetter (nI y) s = some (bI (decide (y < 10)), s) := by
  unfold fX11_isLetter
  by_cases h : 10 ≤ y
  · simp (disch := omega) only [le_ok, if_pos]
    rw [decide_eq_false (by omega)]
    rfl
  · simp (disch := omega) only [le_ok, if_neg]
    rw [decide_eq_true (by omega)]
    rfl
theorem bit_c (b : Nat → Bool) {x : Nat} (hx : x < 6) (s : PH) : fX11_bit (nI (mk b)) (nI x) s = some (bI (b x), s) := by
  unfold fX11_bit
  rw [mk_bit b hx]
theorem bI_1 (b : Bool) : (bI b = nI 1) = (b = true) := by
  cases b
  · exact propext ⟨fun h => absurd h (by decide +kernel), fun h => by cases h⟩
  · exact propext ⟨fun _ => rfl, fun _ => rfl⟩
theorem fill_c {s : PH} {q m n : Nat} {v : Int32} (hm : m < 1000) (hn : m < n) : wp (fJ7_fill_53178 n q m v s) (fun _ t => Fr (fun x => x = q) s t ∧ ∀ x, x < m → t.1 q x = v) := by
  unfold fJ7_fill_53178
  simp only [lt_def]
  refine wp_for2 m (by omega) (fun j t => Fr (fun x => x = q) s t ∧ ∀ x, x < j → t.1 q x = v) ?_ ?_ n 0 s (by omega) ⟨Fr.rf, fun x hx => absurd hx (Nat.not_lt_zero x)⟩ (by omega)
  · rintro rec j t hj ⟨hf, hb⟩ ih
    simp (disch := omega) only [le_ok, if_neg, wa_ok, lt_def, nI_add, cl_ok]
    refine ih _ ⟨hf.tr (Fr.si rfl), fun x hx => ?_⟩
    rw [si_q]
    by_cases e : x = j
    · simp [e]
    · simp [e, hb x (by omega)]
  · rintro rec t ⟨hf, hb⟩
    simp (disch := omega) only [le_ok, if_pos]
    exact wp_some ⟨hf, hb⟩
