/-! ===== GRAMMARS ===== -/
abbrev Gr : Type := Nat × (Nat → Nat) × (Nat → Nat) × (Nat → Nat → Nat)
/-- a row of the reference's holds this grammar -/
def MG (G : Gr) (f : Nat → Int32) : Prop := f 0 = nI G.1 ∧ ∀ p, p < G.1 → f (1 + p) = nI (G.2.1 p) ∧ f (17 + p) = nI (G.2.2.1 p) ∧ ∀ i, i < G.2.2.1 p → f (33 + (5 * p + i)) = nI (G.2.2.2 p i)
def dfd (G : Gr) (x : Nat) : Prop := ∃ p, p < G.1 ∧ G.2.1 p = x
/-- a grammar that the document allows -/
def WG (G : Gr) : Prop := (1 ≤ G.1 ∧ G.1 ≤ 16) ∧ (∀ p, p < G.1 → G.2.1 p < 6 ∧ G.2.2.1 p ≤ 5) ∧ (∀ p i, p < G.1 → i < G.2.2.1 p → G.2.2.2 p i < 5 ∨ (10 ≤ G.2.2.2 p i ∧ G.2.2.2 p i < 16 ∧ dfd G (G.2.2.2 p i - 10))) ∧ ∀ p q r, p ≤ q → q ≤ r → r < G.1 → G.2.1 p = G.2.1 r → G.2.1 q = G.2.1 p
theorem many_e {G : Gr} {s : PH} (h : MG G (s.1 149)) : fX12_many s = some (nI G.1, s) := by
  unfold fX12_many
  simp (disch := omega) only [ra_ok]
  rw [h.1]
theorem left_e {G : Gr} {s : PH} (h : MG G (s.1 149)) (w : WG G) {p : Nat} (hp : p < G.1) : fX12_left (nI p) s = some (nI (G.2.1 p), s) := by
  have := w.1.2
  unfold fX12_left
  simp (disch := omega) only [nI_add, ra_ok]
  rw [(h.2 p hp).1]
theorem size_e {G : Gr} {s : PH} (h : MG G (s.1 149)) (w : WG G) {p : Nat} (hp : p < G.1) : fX12_size (nI p) s = some (nI (G.2.2.1 p), s) := by
  have := w.1.2
  unfold fX12_size
  simp (disch := omega) only [nI_add, ra_ok]
  rw [(h.2 p hp).2.1]
theorem at_e {G : Gr} {s : PH} (h : MG G (s.1 149)) (w : WG G) {p i : Nat} (hp : p < G.1) (hi : i < G.2.2.1 p) : fX12_at (nI p) (nI i) s = some (nI (G.2.2.2 p i), s) := by
  have h1 := w.1.2
  have h2 := (w.2.1 p hp).2
  unfold fX12_at
  simp (disch := omega) only [nI_mulN, nI_add, ra_ok]
  rw [Nat.add_assoc, (h.2 p hp).2.2 i hi]
theorem start_e {G : Gr} {s : PH} (h : MG G (s.1 149)) (w : WG G) : fX12_start s = some (nI (G.2.1 0), s) := by
  unfold fX12_start
  simp (disch := omega) only [ra_ok]
  rw [(h.2 0 w.1.1).1]
theorem in_e (v lo hi : Int32) (s : PH) : fX12_in v lo hi s = some (if lo ≤ v ∧ v ≤ hi then nI 1 else nI 0, s) := by
  unfold fX12_in
  by_cases h1 : v < lo
  · rw [if_pos h1, if_neg (fun h => absurd h1 (Int32.not_lt.mpr h.1))]
  · rw [if_neg h1]
    by_cases h2 : hi < v
    · rw [if_pos h2, if_neg (fun h => absurd h2 (Int32.not_lt.mpr h.2))]
    · rw [if_neg h2, if_pos ⟨Int32.not_lt.mp h1, Int32.not_lt.mp h2⟩]
/-- how many productions a nonterminal has among the first n -/
def cntP (G : Gr) (x : Nat) : Nat → Nat
  | 0 => 0
  | n + 1 => cntP G x n + if G.2.1 n = x then 1 else 0
theorem cntP_le (G : Gr) (x n : Nat) : cntP G x n ≤ n := by
  induction n with
  | zero => exact Nat.le_refl 0
  | succ n ih => unfold cntP; split <;> omega
theorem prodOf_e {G : Gr} {s : PH} (h : MG G (s.1 149)) (w : WG G) {x n : Nat} (hx : x < 2147483648) (hn : 17 ≤ n) : fX12_productionsOf n (nI x) s = some (nI (cntP G x G.1), s) := by
  have h16 := w.1.2
  have key : wp (fX12_productionsOf n (nI x) s) (fun r t => r = nI (cntP G x G.1) ∧ t = s) := by
    unfold fX12_productionsOf
    simp only [lt_def]
    refine wp_loo3 (fun v3 v4 t => t = s ∧ ∃ p, p ≤ G.1 ∧ v4 = nI p ∧ v3 = nI (cntP G x p)) (fun _ v4 _ => G.1 - v4.toNatClampNeg) ?_ n _ _ _ ⟨rfl, 0, Nat.zero_le _, rfl, rfl⟩ (by omega)
    rintro rec v3 v4 t ⟨rfl, p, hp, rfl, rfl⟩ ih
    simp only [many_e h, bd_ok]
    rcases Nat.lt_or_ge p G.1 with hlt | hge
    · have h6 := (w.2.1 p hlt).1
      simp (disch := omega) only [le_ok, left_e h w hlt, bd_ok, jn_def, lt_def, eq_ok, nI_add, if_neg]
      have e : cntP G x (p + 1) = cntP G x p + if G.2.1 p = x then 1 else 0 := rfl
      split
      · refine ih _ _ _ ⟨rfl, p + 1, by omega, rfl, ?_⟩ ?_
        · rw [e, if_pos ‹_›]
        · simp (disch := omega) only [cl_ok]; omega
      · refine ih _ _ _ ⟨rfl, p + 1, by omega, rfl, ?_⟩ ?_
        · rw [e, if_neg ‹_›]
        · simp (disch := omega) only [cl_ok]; omega
    · have : p = G.1 := by omega
      subst this
      simp (disch := omega) only [le_ok, if_pos]
      exact wp_some ⟨rfl, rfl⟩
  obtain ⟨r, t, e, rfl, rfl⟩ := key
  exact e
