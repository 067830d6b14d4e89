/-! ===== LAYER 2: the pure functions. wp: it comes to an end, and the end is so ===== -/
def wp {α : Type} (x : Option (α × PH)) (Φ : α → PH → Prop) : Prop := ∃ (r : α) (s : PH), x = some (r, s) ∧ Φ r s
theorem wp_some {α : Type} {r : α} {s : PH} {Φ : α → PH → Prop} (h : Φ r s) : wp (some (r, s)) Φ := ⟨r, s, rfl, h⟩
theorem wp_bd {α β : Type} {x : Option (α × PH)} {k : α → PH → Option (β × PH)} {Φ : β → PH → Prop} (h : wp x (fun r s => wp (k r s) Φ)) : wp (bd x k) Φ := by
  obtain ⟨r, s, e, h⟩ := h
  rw [e]
  exact h
theorem wp_mono {α : Type} {x : Option (α × PH)} {Φ Ψ : α → PH → Prop} (h : wp x Φ) (hm : ∀ r s, Φ r s → Ψ r s) : wp x Ψ := by
  obtain ⟨r, s, e, h⟩ := h
  exact ⟨r, s, e, hm r s h⟩
theorem wp_call {α β : Type} {x : Option (α × PH)} {k : α → PH → Option (β × PH)} {Φ : α → PH → Prop} {Ψ : β → PH → Prop} (h : wp x Φ) (hk : ∀ r s, Φ r s → wp (k r s) Ψ) : wp (bd x k) Ψ := wp_bd (wp_mono h hk)
theorem wp_eq {α : Type} {x y : Option (α × PH)} {Φ : α → PH → Prop} (e : x = y) (h : wp y Φ) : wp x Φ := by rw [e]; exact h
theorem wp_if {α : Type} {c : Prop} [Decidable c] {x y : Option (α × PH)} {Φ : α → PH → Prop} (ht : c → wp x Φ) (hf : ¬ c → wp y Φ) : wp (if c then x else y) Φ := by
  by_cases h : c
  · rw [if_pos h]; exact ht h
  · rw [if_neg h]; exact hf h
theorem wp_ra {α β : Type} {n : Nat} {i : Int32} {f : Nat → α} {k : α → Option (β × PH)} {Φ : β → PH → Prop} (hi : 0 ≤ i ∧ i.toNatClampNeg < n) (h : wp (k (f i.toNatClampNeg)) Φ) : wp (ra n i f k) Φ := by
  unfold ra
  rw [if_pos hi]
  exact h
theorem wp_wa {β : Type} {n : Nat} {i : Int32} {k : Option (β × PH)} {Φ : β → PH → Prop} (hi : 0 ≤ i ∧ i.toNatClampNeg < n) (h : wp k Φ) : wp (wa n i k) Φ := by
  unfold wa
  rw [if_pos hi]
  exact h
theorem lt_def {α β : Type} (a : α) (k : α → β) : lt a k = k a := rfl
theorem jn_def {α β : Type} (r : α) (b : α → β) : jn r b = b r := rfl
theorem bd_ok {α β : Type} (r : α) (s : PH) (k : α → PH → Option β) : bd (some (r, s)) k = k r s := rfl
/-! numbers -/
theorem nI_mulN (a b : Nat) : nI a * nI b = nI (a * b) := by
  unfold nI
  rw [Int32.ofNat_mul]
theorem nI_subN {a b : Nat} (h : b ≤ a) : nI a - nI b = nI (a - b) := by
  have e : nI a = nI (a - b) + nI b := by rw [nI_add]; congr 1; omega
  rw [e]
  simp
theorem nI_inb {i n : Nat} (h : i < n) (hn : n ≤ 2147483648) : 0 ≤ nI i ∧ (nI i).toNatClampNeg < n := by
  refine ⟨nI_pos' (by omega), ?_⟩
  rw [nI_clamp (by omega)]
  exact h
theorem ra_ok {α β : Type} {n i : Nat} (f : Nat → α) (k : α → Option β) (h : i < n) (hn : n ≤ 2147483648) : ra n (nI i) f k = k (f i) := by
  unfold ra
  rw [if_pos (nI_inb h hn), nI_clamp (by omega)]
theorem wa_ok {β : Type} {n i : Nat} (k : Option β) (h : i < n) (hn : n ≤ 2147483648) : wa n (nI i) k = k := by
  unfold wa
  rw [if_pos (nI_inb h hn)]
theorem cl_ok {i : Nat} (h : i < 2147483648) : (nI i).toNatClampNeg = i := nI_clamp h
theorem le_ok {a b : Nat} (ha : a < 2147483648) (hb : b < 2147483648) : (nI a ≤ nI b) = (a ≤ b) := propext (nI_leI ha hb)
theorem lt_ok {a b : Nat} (ha : a < 2147483648) (hb : b < 2147483648) : (nI a < nI b) = (a < b) := propext (nI_ltI ha hb)
theorem eq_ok {a b : Nat} (ha : a < 2147483648) (hb : b < 2147483648) : (nI a = nI b) = (a = b) := propext (nI_eq ha hb)
theorem eq0_ok {a : Nat} (ha : a < 2147483648) : (nI a = 0) = (a = 0) := by rw [← nI_0]; exact eq_ok ha (by decide)
theorem le0_ok {a : Nat} (ha : a < 2147483648) : (0 ≤ nI a) = True := by
  apply propext
  exact ⟨fun _ => trivial, fun _ => nI_pos' ha⟩
theorem lt0_ok {a : Nat} (ha : a < 2147483648) : (nI a < 0) = False := by
  apply propext
  exact ⟨fun h => nI_pos ha h, fun h => h.elim⟩
theorem gt0_ok {a : Nat} (ha : a < 2147483648) : (0 < nI a) = (0 < a) := by rw [← nI_0]; exact lt_ok (by decide) ha
theorem neg_lt {a : Nat} (ha : a < 2147483648) : nI a ≠ -9 := by
  intro h
  have := congrArg Int32.toInt h
  rw [nI_toInt ha] at this
  have e : (-9 : Int32).toInt = -9 := by decide
  rw [e] at this
  omega
/-! what is read behind a write -/
theorem si_1 (σ : PH) (q k : Nat) (v : Int32) (a b : Nat) : (si σ q k v).1 a b = if a = q ∧ b = k then v else σ.1 a b := by
  show pset σ.1 q k v a b = _
  unfold pset
  by_cases ha : a = q
  · subst ha
    by_cases hb : b = k <;> simp [hb]
  · simp [ha]
theorem si_r (σ : PH) (q k : Nat) (v : Int32) {a : Nat} (h : a ≠ q) : (si σ q k v).1 a = σ.1 a := pset_o _ _ _ h
theorem si_q (σ : PH) (q k : Nat) (v : Int32) : (si σ q k v).1 q = fun b => if b = k then v else σ.1 q b := pset_q _ _ _ _
theorem si_2 (σ : PH) (q k : Nat) (v : Int32) : (si σ q k v).2 = σ.2 := rfl
theorem sl_1 (σ : PH) (q k : Nat) (v : Int64) : (sl σ q k v).1 = σ.1 := rfl
theorem sl_2 (σ : PH) (q k : Nat) (v : Int64) : (sl σ q k v).2.2 = σ.2.2 := rfl
theorem sl_r (σ : PH) (q k : Nat) (v : Int64) {a : Nat} (h : a ≠ q) : (sl σ q k v).2.1 a = σ.2.1 a := pset_o _ _ _ h
theorem sl_q (σ : PH) (q k : Nat) (v : Int64) : (sl σ q k v).2.1 q = fun b => if b = k then v else σ.2.1 q b := pset_q _ _ _ _
theorem sg_1 (σ : PH) (q k v : Nat) : (sg σ q k v).1 = σ.1 := rfl
theorem sg_2 (σ : PH) (q k v : Nat) : (sg σ q k v).2.1 = σ.2.1 := rfl
theorem sg_r (σ : PH) (q k v : Nat) {a : Nat} (h : a ≠ q) : (sg σ q k v).2.2 a = σ.2.2 a := pset_o _ _ _ h
theorem sg_q (σ : PH) (q k v : Nat) : (sg σ q k v).2.2 q = fun b => if b = k then v else σ.2.2 q b := pset_q _ _ _ _
/-- nothing but the cells that P names has changed -/
def Fr (P : Nat → Prop) (σ σ' : PH) : Prop := ∀ q, ¬ P q → σ'.1 q = σ.1 q ∧ σ'.2.1 q = σ.2.1 q ∧ σ'.2.2 q = σ.2.2 q
theorem Fr.rf {P : Nat → Prop} {σ : PH} : Fr P σ σ := fun _ _ => ⟨rfl, rfl, rfl⟩
theorem Fr.tr {P : Nat → Prop} {a b c : PH} (h1 : Fr P a b) (h2 : Fr P b c) : Fr P a c := fun q hq => ⟨(h2 q hq).1.trans (h1 q hq).1, (h2 q hq).2.1.trans (h1 q hq).2.1, (h2 q hq).2.2.trans (h1 q hq).2.2⟩
theorem Fr.wk {P Q : Nat → Prop} {a b : PH} (h : Fr P a b) (hPQ : ∀ q, P q → Q q) : Fr Q a b := fun q hq => h q (fun z => hq (hPQ q z))
theorem Fr.si {P : Nat → Prop} {σ : PH} {q k : Nat} {v : Int32} (h : P q) : Fr P σ (si σ q k v) := fun a ha => ⟨si_r _ _ _ _ (fun e => ha (e ▸ h)), rfl, rfl⟩
theorem Fr.sl {P : Nat → Prop} {σ : PH} {q k : Nat} {v : Int64} (h : P q) : Fr P σ (sl σ q k v) := fun a ha => ⟨rfl, sl_r _ _ _ _ (fun e => ha (e ▸ h)), rfl⟩
theorem Fr.sg {P : Nat → Prop} {σ : PH} {q k v : Nat} (h : P q) : Fr P σ (sg σ q k v) := fun a ha => ⟨rfl, rfl, sg_r _ _ _ _ (fun e => ha (e ▸ h))⟩
theorem wp_loo1 {A0 α : Type} {body : (A0 → Option (α × PH)) → A0 → Option (α × PH)} {Φ : α → PH → Prop} (I : A0 → Prop) (μ : A0 → Nat)
    (step : ∀ (rec : A0 → Option (α × PH)) (a0 : A0), I a0 → (∀ (b0 : A0), I b0 → μ b0 < μ a0 → wp (rec b0) Φ) → wp (body rec a0) Φ) : ∀ (n : Nat) (a0 : A0), I a0 → μ a0 < n → wp (loo1 body n a0) Φ := by
  intro n
  induction n with
  | zero => intro a0 _ h; exact absurd h (Nat.not_lt_zero _)
  | succ n ih => intro a0 hI hm; exact step _ a0 hI (fun b0 hb hl => ih b0 hb (Nat.lt_of_lt_of_le hl (Nat.le_of_lt_succ hm)))
theorem wp_loo2 {A0 A1 α : Type} {body : (A0 → A1 → Option (α × PH)) → A0 → A1 → Option (α × PH)} {Φ : α → PH → Prop} (I : A0 → A1 → Prop) (μ : A0 → A1 → Nat)
    (step : ∀ (rec : A0 → A1 → Option (α × PH)) (a0 : A0) (a1 : A1), I a0 a1 → (∀ (b0 : A0) (b1 : A1), I b0 b1 → μ b0 b1 < μ a0 a1 → wp (rec b0 b1) Φ) → wp (body rec a0 a1) Φ) : ∀ (n : Nat) (a0 : A0) (a1 : A1), I a0 a1 → μ a0 a1 < n → wp (loo2 body n a0 a1) Φ := by
  intro n
  induction n with
  | zero => intro a0 a1 _ h; exact absurd h (Nat.not_lt_zero _)
  | succ n ih => intro a0 a1 hI hm; exact step _ a0 a1 hI (fun b0 b1 hb hl => ih b0 b1 hb (Nat.lt_of_lt_of_le hl (Nat.le_of_lt_succ hm)))
theorem wp_loo3 {A0 A1 A2 α : Type} {body : (A0 → A1 → A2 → Option (α × PH)) → A0 → A1 → A2 → Option (α × PH)} {Φ : α → PH → Prop} (I : A0 → A1 → A2 → Prop) (μ : A0 → A1 → A2 → Nat)
    (step : ∀ (rec : A0 → A1 → A2 → Option (α × PH)) (a0 : A0) (a1 : A1) (a2 : A2), I a0 a1 a2 → (∀ (b0 : A0) (b1 : A1) (b2 : A2), I b0 b1 b2 → μ b0 b1 b2 < μ a0 a1 a2 → wp (rec b0 b1 b2) Φ) → wp (body rec a0 a1 a2) Φ) : ∀ (n : Nat) (a0 : A0) (a1 : A1) (a2 : A2), I a0 a1 a2 → μ a0 a1 a2 < n → wp (loo3 body n a0 a1 a2) Φ := by
  intro n
  induction n with
  | zero => intro a0 a1 a2 _ h; exact absurd h (Nat.not_lt_zero _)
  | succ n ih => intro a0 a1 a2 hI hm; exact step _ a0 a1 a2 hI (fun b0 b1 b2 hb hl => ih b0 b1 b2 hb (Nat.lt_of_lt_of_le hl (Nat.le_of_lt_succ hm)))
theorem wp_loo4 {A0 A1 A2 A3 α : Type} {body : (A0 → A1 → A2 → A3 → Option (α × PH)) → A0 → A1 → A2 → A3 → Option (α × PH)} {Φ : α → PH → Prop} (I : A0 → A1 → A2 → A3 → Prop) (μ : A0 → A1 → A2 → A3 → Nat)
    (step : ∀ (rec : A0 → A1 → A2 → A3 → Option (α × PH)) (a0 : A0) (a1 : A1) (a2 : A2) (a3 : A3), I a0 a1 a2 a3 → (∀ (b0 : A0) (b1 : A1) (b2 : A2) (b3 : A3), I b0 b1 b2 b3 → μ b0 b1 b2 b3 < μ a0 a1 a2 a3 → wp (rec b0 b1 b2 b3) Φ) → wp (body rec a0 a1 a2 a3) Φ) : ∀ (n : Nat) (a0 : A0) (a1 : A1) (a2 : A2) (a3 : A3), I a0 a1 a2 a3 → μ a0 a1 a2 a3 < n → wp (loo4 body n a0 a1 a2 a3) Φ := by
  intro n
  induction n with
  | zero => intro a0 a1 a2 a3 _ h; exact absurd h (Nat.not_lt_zero _)
  | succ n ih => intro a0 a1 a2 a3 hI hm; exact step _ a0 a1 a2 a3 hI (fun b0 b1 b2 b3 hb hl => ih b0 b1 b2 b3 hb (Nat.lt_of_lt_of_le hl (Nat.le_of_lt_succ hm)))
theorem wp_loo5 {A0 A1 A2 A3 A4 α : Type} {body : (A0 → A1 → A2 → A3 → A4 → Option (α × PH)) → A0 → A1 → A2 → A3 → A4 → Option (α × PH)} {Φ : α → PH → Prop} (I : A0 → A1 → A2 → A3 → A4 → Prop) (μ : A0 → A1 → A2 → A3 → A4 → Nat)
    (step : ∀ (rec : A0 → A1 → A2 → A3 → A4 → Option (α × PH)) (a0 : A0) (a1 : A1) (a2 : A2) (a3 : A3) (a4 : A4), I a0 a1 a2 a3 a4 → (∀ (b0 : A0) (b1 : A1) (b2 : A2) (b3 : A3) (b4 : A4), I b0 b1 b2 b3 b4 → μ b0 b1 b2 b3 b4 < μ a0 a1 a2 a3 a4 → wp (rec b0 b1 b2 b3 b4) Φ) → wp (body rec a0 a1 a2 a3 a4) Φ) : ∀ (n : Nat) (a0 : A0) (a1 : A1) (a2 : A2) (a3 : A3) (a4 : A4), I a0 a1 a2 a3 a4 → μ a0 a1 a2 a3 a4 < n → wp (loo5 body n a0 a1 a2 a3 a4) Φ := by
  intro n
  induction n with
  | zero => intro a0 a1 a2 a3 a4 _ h; exact absurd h (Nat.not_lt_zero _)
  | succ n ih => intro a0 a1 a2 a3 a4 hI hm; exact step _ a0 a1 a2 a3 a4 hI (fun b0 b1 b2 b3 b4 hb hl => ih b0 b1 b2 b3 b4 hb (Nat.lt_of_lt_of_le hl (Nat.le_of_lt_succ hm)))
theorem wp_loo6 {A0 A1 A2 A3 A4 A5 α : Type} {body : (A0 → A1 → A2 → A3 → A4 → A5 → Option (α × PH)) → A0 → A1 → A2 → A3 → A4 → A5 → Option (α × PH)} {Φ : α → PH → Prop} (I : A0 → A1 → A2 → A3 → A4 → A5 → Prop) (μ : A0 → A1 → A2 → A3 → A4 → A5 → Nat)
    (step : ∀ (rec : A0 → A1 → A2 → A3 → A4 → A5 → Option (α × PH)) (a0 : A0) (a1 : A1) (a2 : A2) (a3 : A3) (a4 : A4) (a5 : A5), I a0 a1 a2 a3 a4 a5 → (∀ (b0 : A0) (b1 : A1) (b2 : A2) (b3 : A3) (b4 : A4) (b5 : A5), I b0 b1 b2 b3 b4 b5 → μ b0 b1 b2 b3 b4 b5 < μ a0 a1 a2 a3 a4 a5 → wp (rec b0 b1 b2 b3 b4 b5) Φ) → wp (body rec a0 a1 a2 a3 a4 a5) Φ) : ∀ (n : Nat) (a0 : A0) (a1 : A1) (a2 : A2) (a3 : A3) (a4 : A4) (a5 : A5), I a0 a1 a2 a3 a4 a5 → μ a0 a1 a2 a3 a4 a5 < n → wp (loo6 body n a0 a1 a2 a3 a4 a5) Φ := by
  intro n
  induction n with
  | zero => intro a0 a1 a2 a3 a4 a5 _ h; exact absurd h (Nat.not_lt_zero _)
  | succ n ih => intro a0 a1 a2 a3 a4 a5 hI hm; exact step _ a0 a1 a2 a3 a4 a5 hI (fun b0 b1 b2 b3 b4 b5 hb hl => ih b0 b1 b2 b3 b4 b5 hb (Nat.lt_of_lt_of_le hl (Nat.le_of_lt_succ hm)))
theorem wp_loo7 {A0 A1 A2 A3 A4 A5 A6 α : Type} {body : (A0 → A1 → A2 → A3 → A4 → A5 → A6 → Option (α × PH)) → A0 → A1 → A2 → A3 → A4 → A5 → A6 → Option (α × PH)} {Φ : α → PH → Prop} (I : A0 → A1 → A2 → A3 → A4 → A5 → A6 → Prop) (μ : A0 → A1 → A2 → A3 → A4 → A5 → A6 → Nat)
    (step : ∀ (rec : A0 → A1 → A2 → A3 → A4 → A5 → A6 → Option (α × PH)) (a0 : A0) (a1 : A1) (a2 : A2) (a3 : A3) (a4 : A4) (a5 : A5) (a6 : A6), I a0 a1 a2 a3 a4 a5 a6 → (∀ (b0 : A0) (b1 : A1) (b2 : A2) (b3 : A3) (b4 : A4) (b5 : A5) (b6 : A6), I b0 b1 b2 b3 b4 b5 b6 → μ b0 b1 b2 b3 b4 b5 b6 < μ a0 a1 a2 a3 a4 a5 a6 → wp (rec b0 b1 b2 b3 b4 b5 b6) Φ) → wp (body rec a0 a1 a2 a3 a4 a5 a6) Φ) : ∀ (n : Nat) (a0 : A0) (a1 : A1) (a2 : A2) (a3 : A3) (a4 : A4) (a5 : A5) (a6 : A6), I a0 a1 a2 a3 a4 a5 a6 → μ a0 a1 a2 a3 a4 a5 a6 < n → wp (loo7 body n a0 a1 a2 a3 a4 a5 a6) Φ := by
  intro n
  induction n with
  | zero => intro a0 a1 a2 a3 a4 a5 a6 _ h; exact absurd h (Nat.not_lt_zero _)
  | succ n ih => intro a0 a1 a2 a3 a4 a5 a6 hI hm; exact step _ a0 a1 a2 a3 a4 a5 a6 hI (fun b0 b1 b2 b3 b4 b5 b6 hb hl => ih b0 b1 b2 b3 b4 b5 b6 hb (Nat.lt_of_lt_of_le hl (Nat.le_of_lt_succ hm)))
theorem wp_loo8 {A0 A1 A2 A3 A4 A5 A6 A7 α : Type} {body : (A0 → A1 → A2 → A3 → A4 → A5 → A6 → A7 → Option (α × PH)) → A0 → A1 → A2 → A3 → A4 → A5 → A6 → A7 → Option (α × PH)} {Φ : α → PH → Prop} (I : A0 → A1 → A2 → A3 → A4 → A5 → A6 → A7 → Prop) (μ : A0 → A1 → A2 → A3 → A4 → A5 → A6 → A7 → Nat)
    (step : ∀ (rec : A0 → A1 → A2 → A3 → A4 → A5 → A6 → A7 → Option (α × PH)) (a0 : A0) (a1 : A1) (a2 : A2) (a3 : A3) (a4 : A4) (a5 : A5) (a6 : A6) (a7 : A7), I a0 a1 a2 a3 a4 a5 a6 a7 → (∀ (b0 : A0) (b1 : A1) (b2 : A2) (b3 : A3) (b4 : A4) (b5 : A5) (b6 : A6) (b7 : A7), I b0 b1 b2 b3 b4 b5 b6 b7 → μ b0 b1 b2 b3 b4 b5 b6 b7 < μ a0 a1 a2 a3 a4 a5 a6 a7 → wp (rec b0 b1 b2 b3 b4 b5 b6 b7) Φ) → wp (body rec a0 a1 a2 a3 a4 a5 a6 a7) Φ) : ∀ (n : Nat) (a0 : A0) (a1 : A1) (a2 : A2) (a3 : A3) (a4 : A4) (a5 : A5) (a6 : A6) (a7 : A7), I a0 a1 a2 a3 a4 a5 a6 a7 → μ a0 a1 a2 a3 a4 a5 a6 a7 < n → wp (loo8 body n a0 a1 a2 a3 a4 a5 a6 a7) Φ := by
  intro n
  induction n with
  | zero => intro a0 a1 a2 a3 a4 a5 a6 a7 _ h; exact absurd h (Nat.not_lt_zero _)
  | succ n ih => intro a0 a1 a2 a3 a4 a5 a6 a7 hI hm; exact step _ a0 a1 a2 a3 a4 a5 a6 a7 hI (fun b0 b1 b2 b3 b4 b5 b6 b7 hb hl => ih b0 b1 b2 b3 b4 b5 b6 b7 hb (Nat.lt_of_lt_of_le hl (Nat.le_of_lt_succ hm)))
theorem wp_loo9 {A0 A1 A2 A3 A4 A5 A6 A7 A8 α : Type} {body : (A0 → A1 → A2 → A3 → A4 → A5 → A6 → A7 → A8 → Option (α × PH)) → A0 → A1 → A2 → A3 → A4 → A5 → A6 → A7 → A8 → Option (α × PH)} {Φ : α → PH → Prop} (I : A0 → A1 → A2 → A3 → A4 → A5 → A6 → A7 → A8 → Prop) (μ : A0 → A1 → A2 → A3 → A4 → A5 → A6 → A7 → A8 → Nat)
    (step : ∀ (rec : A0 → A1 → A2 → A3 → A4 → A5 → A6 → A7 → A8 → Option (α × PH)) (a0 : A0) (a1 : A1) (a2 : A2) (a3 : A3) (a4 : A4) (a5 : A5) (a6 : A6) (a7 : A7) (a8 : A8), I a0 a1 a2 a3 a4 a5 a6 a7 a8 → (∀ (b0 : A0) (b1 : A1) (b2 : A2) (b3 : A3) (b4 : A4) (b5 : A5) (b6 : A6) (b7 : A7) (b8 : A8), I b0 b1 b2 b3 b4 b5 b6 b7 b8 → μ b0 b1 b2 b3 b4 b5 b6 b7 b8 < μ a0 a1 a2 a3 a4 a5 a6 a7 a8 → wp (rec b0 b1 b2 b3 b4 b5 b6 b7 b8) Φ) → wp (body rec a0 a1 a2 a3 a4 a5 a6 a7 a8) Φ) : ∀ (n : Nat) (a0 : A0) (a1 : A1) (a2 : A2) (a3 : A3) (a4 : A4) (a5 : A5) (a6 : A6) (a7 : A7) (a8 : A8), I a0 a1 a2 a3 a4 a5 a6 a7 a8 → μ a0 a1 a2 a3 a4 a5 a6 a7 a8 < n → wp (loo9 body n a0 a1 a2 a3 a4 a5 a6 a7 a8) Φ := by
  intro n
  induction n with
  | zero => intro a0 a1 a2 a3 a4 a5 a6 a7 a8 _ h; exact absurd h (Nat.not_lt_zero _)
  | succ n ih => intro a0 a1 a2 a3 a4 a5 a6 a7 a8 hI hm; exact step _ a0 a1 a2 a3 a4 a5 a6 a7 a8 hI (fun b0 b1 b2 b3 b4 b5 b6 b7 b8 hb hl => ih b0 b1 b2 b3 b4 b5 b6 b7 b8 hb (Nat.lt_of_lt_of_le hl (Nat.le_of_lt_succ hm)))
