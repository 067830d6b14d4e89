/-! ===== loops that count ===== -/
theorem wp_for2 {α : Type} {body : (Int32 → PH → Option (α × PH)) → Int32 → PH → Option (α × PH)} {Φ : α → PH → Prop} (b : Nat) (hb : b < 2147483647) (I : Nat → PH → Prop)
    (step : ∀ (rec : Int32 → PH → Option (α × PH)) (j : Nat) (s : PH), j < b → I j s → (∀ s', I (j + 1) s' → wp (rec (nI (j + 1)) s') Φ) → wp (body rec (nI j) s) Φ)
    (exit : ∀ (rec : Int32 → PH → Option (α × PH)) (s : PH), I b s → wp (body rec (nI b) s) Φ) :
    ∀ (n a : Nat) (s : PH), a ≤ b → I a s → b - a < n → wp (loo2 body n (nI a) s) Φ := by
  intro n a s hab hI hn
  refine wp_loo2 (fun v t => ∃ j, j ≤ b ∧ v = nI j ∧ I j t) (fun v _ => b - v.toNatClampNeg) ?_ n (nI a) s ⟨a, hab, rfl, hI⟩ (by rw [cl_ok (by omega)]; exact hn)
  rintro rec v t ⟨j, hj, rfl, hI⟩ ih
  rcases Nat.lt_or_ge j b with h | h
  · exact step rec j t h hI (fun s' hs => ih _ _ ⟨j + 1, h, rfl, hs⟩ (by rw [cl_ok (by omega), cl_ok (by omega)]; omega))
  · have : j = b := by omega
    subst this
    exact exit rec t hI
theorem wp_for3 {α A : Type} {body : (A → Int32 → PH → Option (α × PH)) → A → Int32 → PH → Option (α × PH)} {Φ : α → PH → Prop} (b : Nat) (hb : b < 2147483647) (I : Nat → A → PH → Prop)
    (step : ∀ (rec : A → Int32 → PH → Option (α × PH)) (j : Nat) (x : A) (s : PH), j < b → I j x s → (∀ x' s', I (j + 1) x' s' → wp (rec x' (nI (j + 1)) s') Φ) → wp (body rec x (nI j) s) Φ)
    (exit : ∀ (rec : A → Int32 → PH → Option (α × PH)) (x : A) (s : PH), I b x s → wp (body rec x (nI b) s) Φ) :
    ∀ (n a : Nat) (x : A) (s : PH), a ≤ b → I a x s → b - a < n → wp (loo3 body n x (nI a) s) Φ := by
  intro n a x s hab hI hn
  refine wp_loo3 (fun y v t => ∃ j, j ≤ b ∧ v = nI j ∧ I j y t) (fun _ v _ => b - v.toNatClampNeg) ?_ n x (nI a) s ⟨a, hab, rfl, hI⟩ (by rw [cl_ok (by omega)]; exact hn)
  rintro rec y v t ⟨j, hj, rfl, hI⟩ ih
  rcases Nat.lt_or_ge j b with h | h
  · exact step rec j y t h hI (fun x' s' hs => ih _ _ _ ⟨j + 1, h, rfl, hs⟩ (by rw [cl_ok (by omega), cl_ok (by omega)]; omega))
  · have : j = b := by omega
    subst this
    exact exit rec y t hI
theorem wp_for3a {α A : Type} {body : (Int32 → A → PH → Option (α × PH)) → Int32 → A → PH → Option (α × PH)} {Φ : α → PH → Prop} (b : Nat) (hb : b < 2147483647) (I : Nat → A → PH → Prop)
    (step : ∀ (rec : Int32 → A → PH → Option (α × PH)) (j : Nat) (x : A) (s : PH), j < b → I j x s → (∀ x' s', I (j + 1) x' s' → wp (rec (nI (j + 1)) x' s') Φ) → wp (body rec (nI j) x s) Φ)
    (exit : ∀ (rec : Int32 → A → PH → Option (α × PH)) (x : A) (s : PH), I b x s → wp (body rec (nI b) x s) Φ) :
    ∀ (n a : Nat) (x : A) (s : PH), a ≤ b → I a x s → b - a < n → wp (loo3 body n (nI a) x s) Φ := by
  intro n a x s hab hI hn
  refine wp_loo3 (fun v y t => ∃ j, j ≤ b ∧ v = nI j ∧ I j y t) (fun v _ _ => b - v.toNatClampNeg) ?_ n (nI a) x s ⟨a, hab, rfl, hI⟩ (by rw [cl_ok (by omega)]; exact hn)
  rintro rec v y t ⟨j, hj, rfl, hI⟩ ih
  rcases Nat.lt_or_ge j b with h | h
  · exact step rec j y t h hI (fun x' s' hs => ih _ _ _ ⟨j + 1, h, rfl, hs⟩ (by rw [cl_ok (by omega), cl_ok (by omega)]; omega))
  · have : j = b := by omega
    subst this
    exact exit rec y t hI
theorem wp_for1 {α : Type} {body : (PH → Option (α × PH)) → PH → Option (α × PH)} {Φ : α → PH → Prop} (I : PH → Prop) (μ : PH → Nat)
    (step : ∀ (rec : PH → Option (α × PH)) (s : PH), I s → (∀ s', I s' → μ s' < μ s → wp (rec s') Φ) → wp (body rec s) Φ) : ∀ (n : Nat) (s : PH), I s → μ s < n → wp (loo1 body n s) Φ := wp_loo1 I μ step
/-! truth values -/
def bI (b : Bool) : Int32 := if b = true then nI 1 else nI 0
theorem bI_t : bI true = nI 1 := rfl
theorem bI_f : bI false = nI 0 := rfl
theorem nz0 : nz (nI 0) = nI 0 := by decide +kernel
theorem nz1 : nz (nI 1) = nI 1 := by decide +kernel
theorem nz_bI (b : Bool) : nz (bI b) = bI b := by cases b <;> first | exact nz0 | exact nz1
theorem n1_0 : ¬ nI 1 = 0 := by decide +kernel
theorem n0_0 : nI 0 = 0 := by decide +kernel
theorem bI_0 (b : Bool) : (bI b = 0) = (b = false) := by
  cases b
  · exact propext ⟨fun _ => rfl, fun _ => n0_0⟩
  · exact propext ⟨fun h => absurd h n1_0, fun h => by cases h⟩
theorem rz_bI (b : Bool) (s : PH) : rz (bI b) s = some (bI b, s) := by
  unfold rz
  rw [if_pos]
  cases b
  · exact Or.inl n0_0
  · exact Or.inr (by decide +kernel)
theorem rz0 (s : PH) : rz (nI 0) s = some (nI 0, s) := rz_bI false s
theorem rz1 (s : PH) : rz (nI 1) s = some (nI 1, s) := rz_bI true s
theorem bI_dec {c : Prop} [Decidable c] : (if c then nI 1 else nI 0) = bI (decide c) := by
  by_cases h : c
  · rw [if_pos h, decide_eq_true h]; rfl
  · rw [if_neg h, decide_eq_false h]; rfl
/-- an array of truth values -/
def BA (f : Nat → Int32) (n : Nat) (E : Nat → Bool) : Prop := ∀ x, x < n → f x = bI (E x)
theorem BA.upd {f : Nat → Int32} {n : Nat} {E : Nat → Bool} (h : BA f n E) (k : Nat) (b : Bool) : BA (fun x => if x = k then bI b else f x) n (fun x => if x = k then b else E x) := by
  intro x hx
  by_cases e : x = k
  · simp [e]
  · simp [e, h x hx]
theorem BA.congr {f : Nat → Int32} {n : Nat} {E E' : Nat → Bool} (h : BA f n E) (he : ∀ x, x < n → E x = E' x) : BA f n E' := fun x hx => by rw [h x hx, he x hx]
