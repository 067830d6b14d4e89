/-! ===== COUNTS: in how many ways a part of a word is derived ===== -/
def rs (f : Nat → Nat) (a : Nat) : Nat → Nat
  | 0 => 0
  | n + 1 => rs f a n + f (a + n)
def sat (n : Nat) : Nat := min 1000000000 n
def se (a b : Nat) : Prop := sat a = sat b
theorem sat_le (n : Nat) : sat n ≤ 1000000000 := Nat.min_le_left _ _
theorem sat_sat (n : Nat) : sat (sat n) = sat n := by unfold sat; omega
theorem sat_id {n : Nat} (h : n ≤ 1000000000) : sat n = n := by unfold sat; omega
theorem sat_0 {n : Nat} : sat n = 0 ↔ n = 0 := by unfold sat; omega
theorem se_rf {a : Nat} : se a a := rfl
theorem se_of {a b : Nat} (h : a = b) : se a b := by rw [h]; rfl
theorem se_c {a b : Nat} (h : se a b) : a = b ∨ (1000000000 ≤ a ∧ 1000000000 ≤ b) := by unfold se sat at h; omega
theorem se_i {a b : Nat} (h : a = b ∨ (1000000000 ≤ a ∧ 1000000000 ≤ b)) : se a b := by unfold se sat; omega
theorem se_sat (a : Nat) : se (sat a) a := sat_sat a
theorem se_add {a b c d : Nat} (h1 : se a b) (h2 : se c d) : se (a + c) (b + d) := by
  have h3 := se_c h1
  have h4 := se_c h2
  apply se_i
  omega
theorem se_mul {a b c d : Nat} (h1 : se a b) (h2 : se c d) : se (a * c) (b * d) := by
  apply se_i
  have big : ∀ {a c : Nat}, 1000000000 ≤ a → 1 ≤ c → 1000000000 ≤ a * c := fun h1 h2 => Nat.le_trans h1 (Nat.le_mul_of_pos_right _ h2)
  have big' : ∀ {a c : Nat}, 1000000000 ≤ c → 1 ≤ a → 1000000000 ≤ a * c := fun h1 h2 => Nat.le_trans h1 (Nat.le_mul_of_pos_left _ h2)
  rcases se_c h1 with e1 | ⟨a1, a2⟩
  · rcases se_c h2 with e2 | ⟨c1, c2⟩
    · left; rw [e1, e2]
    · rw [e1]
      rcases Nat.eq_zero_or_pos b with e | e
      · left; rw [e, Nat.zero_mul, Nat.zero_mul]
      · right; exact ⟨big' c1 e, big' c2 e⟩
  · rcases se_c h2 with e2 | ⟨c1, c2⟩
    · rw [e2]
      rcases Nat.eq_zero_or_pos d with e | e
      · left; rw [e, Nat.mul_zero, Nat.mul_zero]
      · right; exact ⟨big a1 e, big a2 e⟩
    · right; exact ⟨big a1 (by omega), big a2 (by omega)⟩
theorem se_tr {a b c : Nat} (h1 : se a b) (h2 : se b c) : se a c := Eq.trans h1 h2
theorem sat_fma (t s w : Nat) : sat (sat t + sat s * sat w) = sat (t + s * w) := se_add (se_sat t) (se_mul (se_sat s) (se_sat w))
theorem rs_se {f g : Nat → Nat} {a : Nat} : ∀ n, (∀ j, j < n → se (f (a + j)) (g (a + j))) → se (rs f a n) (rs g a n)
  | 0, _ => rfl
  | n + 1, h => se_add (rs_se n (fun j hj => h j (by omega))) (h n (by omega))
theorem rs_congr {f g : Nat → Nat} {a : Nat} : ∀ n, (∀ j, j < n → f (a + j) = g (a + j)) → rs f a n = rs g a n
  | 0, _ => rfl
  | n + 1, h => by
    show rs f a n + f (a + n) = rs g a n + g (a + n)
    rw [rs_congr n (fun j hj => h j (by omega)), h n (by omega)]
theorem rs_ne {f : Nat → Nat} {a : Nat} : ∀ n, rs f a n ≠ 0 → ∃ j, j < n ∧ f (a + j) ≠ 0
  | 0, h => absurd rfl h
  | n + 1, h => by
    by_cases h1 : f (a + n) = 0
    · have : rs f a n ≠ 0 := by
        intro h2
        apply h
        show rs f a n + f (a + n) = 0
        omega
      obtain ⟨j, hj, e⟩ := rs_ne n this
      exact ⟨j, by omega, e⟩
    · exact ⟨n, by omega, h1⟩
theorem rs_zero {f : Nat → Nat} {a : Nat} (n : Nat) (h : ∀ j, j < n → f (a + j) = 0) : rs f a n = 0 := by
  refine Classical.byContradiction (fun hc => ?_)
  obtain ⟨j, hj, e⟩ := rs_ne n hc
  exact e (h j hj)
theorem rs_split (f : Nat → Nat) (a n : Nat) : ∀ m, rs f a (n + m) = rs f a n + rs f (a + n) m
  | 0 => rfl
  | m + 1 => by
    show rs f a (n + m) + f (a + (n + m)) = rs f a n + (rs f (a + n) m + f (a + n + m))
    rw [rs_split f a n m, Nat.add_assoc a n m]
    omega
theorem rs_ge {f : Nat → Nat} {a : Nat} : ∀ n j, j < n → f (a + j) ≤ rs f a n
  | 0, j, h => absurd h (Nat.not_lt_zero j)
  | n + 1, j, h => by
    show _ ≤ rs f a n + f (a + n)
    by_cases e : j = n
    · rw [e]; omega
    · have := rs_ge (f := f) (a := a) n j (by omega)
      omega
/-- one symbol between two places; i symbols -/
def sy (u : Nat → Nat) (W : Nat → Nat → Nat → Nat) (y m b : Nat) : Nat := if y < 10 then (if b = m + 1 ∧ u m = y then 1 else 0) else W (y - 10) m b
def sL (u : Nat → Nat) (W : Nat → Nat → Nat → Nat) (q : Nat → Nat) : Nat → Nat → Nat → Nat
  | 0, a, b => if a = b then 1 else 0
  | i + 1, a, b => rs (fun m => sL u W q i a m * sy u W (q i) m b) a (b + 1 - a)
/-- over the first n productions, those of x -/
def pS (G : Gr) (f : Nat → Nat) (x : Nat) : Nat → Nat
  | 0 => 0
  | n + 1 => pS G f x n + if G.2.1 n = x then f n else 0
def DD (G : Gr) (u : Nat → Nat) : Nat → Nat → Nat → Nat → Nat
  | 0, _, _, _ => 0
  | h + 1, x, a, b => pS G (fun p => sL u (DD G u h) (G.2.2.2 p) (G.2.2.1 p) a b) x G.1
def NN (G : Gr) (u : Nat → Nat) (x a b : Nat) : Nat := DD G u 64 x a b
theorem pS_se {G : Gr} {f g : Nat → Nat} {x : Nat} : ∀ n, (∀ p, p < n → G.2.1 p = x → se (f p) (g p)) → se (pS G f x n) (pS G g x n)
  | 0, _ => rfl
  | n + 1, h => by
    refine se_add (pS_se n (fun p hp hx => h p (by omega) hx)) ?_
    by_cases e : G.2.1 n = x
    · rw [if_pos e, if_pos e]; exact h n (by omega) e
    · rw [if_neg e, if_neg e]; rfl
theorem pS_congr {G : Gr} {f g : Nat → Nat} {x : Nat} : ∀ n, (∀ p, p < n → G.2.1 p = x → f p = g p) → pS G f x n = pS G g x n
  | 0, _ => rfl
  | n + 1, h => by
    show pS G f x n + _ = pS G g x n + _
    rw [pS_congr n (fun p hp hx => h p (by omega) hx)]
    by_cases e : G.2.1 n = x
    · rw [if_pos e, if_pos e, h n (by omega) e]
    · rw [if_neg e, if_neg e]
theorem pS_ne {G : Gr} {f : Nat → Nat} {x : Nat} : ∀ n, pS G f x n ≠ 0 → ∃ p, p < n ∧ G.2.1 p = x ∧ f p ≠ 0
  | 0, h => absurd rfl h
  | n + 1, h => by
    have e : pS G f x (n + 1) = pS G f x n + if G.2.1 n = x then f n else 0 := rfl
    by_cases h1 : pS G f x n = 0
    · by_cases h2 : G.2.1 n = x
      · rw [e, h1, if_pos h2, Nat.zero_add] at h
        exact ⟨n, by omega, h2, h⟩
      · rw [e, h1, if_neg h2] at h
        exact absurd rfl h
    · obtain ⟨p, hp, h2, h3⟩ := pS_ne n h1
      exact ⟨p, by omega, h2, h3⟩
/-- the same letters at another place -/
theorem sL_tr {u u' : Nat → Nat} {W W' : Nat → Nat → Nat → Nat} {q : Nat → Nat} {a a' n : Nat} (hu : ∀ i, i < n → u (a + i) = u' (a' + i)) (hW : ∀ x c d, c ≤ d → d ≤ n → W x (a + c) (a + d) = W' x (a' + c) (a' + d)) : ∀ i c d, c ≤ d → d ≤ n → sL u W q i (a + c) (a + d) = sL u' W' q i (a' + c) (a' + d)
  | 0, c, d, _, _ => by
    show (if a + c = a + d then 1 else 0) = if a' + c = a' + d then 1 else 0
    by_cases e : c = d
    · rw [if_pos (by omega), if_pos (by omega)]
    · rw [if_neg (by omega), if_neg (by omega)]
  | i + 1, c, d, h1, h2 => by
    show rs (fun m => sL u W q i (a + c) m * sy u W (q i) m (a + d)) (a + c) (a + d + 1 - (a + c)) = rs (fun m => sL u' W' q i (a' + c) m * sy u' W' (q i) m (a' + d)) (a' + c) (a' + d + 1 - (a' + c))
    rw [show a + d + 1 - (a + c) = d + 1 - c by omega, show a' + d + 1 - (a' + c) = d + 1 - c by omega]
    have key : ∀ k, k ≤ d + 1 - c → rs (fun m => sL u W q i (a + c) m * sy u W (q i) m (a + d)) (a + c) k = rs (fun m => sL u' W' q i (a' + c) m * sy u' W' (q i) m (a' + d)) (a' + c) k := by
      intro k
      induction k with
      | zero => intro _; rfl
      | succ k ih =>
        intro hk
        show rs _ _ k + sL u W q i (a + c) (a + c + k) * sy u W (q i) (a + c + k) (a + d) = rs _ _ k + sL u' W' q i (a' + c) (a' + c + k) * sy u' W' (q i) (a' + c + k) (a' + d)
        rw [ih (by omega), Nat.add_assoc a c k, Nat.add_assoc a' c k, sL_tr hu hW i c (c + k) (by omega) (by omega)]
        have e : sy u W (q i) (a + (c + k)) (a + d) = sy u' W' (q i) (a' + (c + k)) (a' + d) := by
          unfold sy
          by_cases h10 : q i < 10
          · rw [if_pos h10, if_pos h10]
            by_cases hd : d = c + k + 1
            · have := hu (c + k) (by omega)
              by_cases hq : u (a + (c + k)) = q i
              · rw [if_pos ⟨by omega, hq⟩, if_pos ⟨by omega, by rw [← this]; exact hq⟩]
              · rw [if_neg (fun h => hq h.2), if_neg (fun h => hq (by rw [this]; exact h.2))]
            · rw [if_neg (fun h => hd (by omega)), if_neg (fun h => hd (by omega))]
          · rw [if_neg h10, if_neg h10]; exact hW _ _ _ (by omega) h2
        rw [e]
    exact key _ (Nat.le_refl _)
theorem DD_tr {G : Gr} {u u' : Nat → Nat} {a a' n : Nat} (hu : ∀ i, i < n → u (a + i) = u' (a' + i)) : ∀ h x c d, c ≤ d → d ≤ n → DD G u h x (a + c) (a + d) = DD G u' h x (a' + c) (a' + d)
  | 0, _, _, _, _, _ => rfl
  | h + 1, x, c, d, h1, h2 => by
    show pS G _ x G.1 = pS G _ x G.1
    exact pS_congr _ (fun p _ _ => sL_tr hu (fun x c d h3 h4 => DD_tr hu h x c d h3 h4) _ c d h1 h2)
/-- nothing comes of fewer letters than the fewest -/
def FP (f : Nat → Nat) (W : Nat → Nat → Nat → Nat) : Prop := ∀ x a b, a ≤ b → W x a b ≠ 0 → f x ≤ b - a
theorem sy_F {f : Nat → Nat} {u : Nat → Nat} {W : Nat → Nat → Nat → Nat} (h : FP f W) {y m b : Nat} (hmb : m ≤ b) (hn : sy u W y m b ≠ 0) : cs f y ≤ b - m := by
  unfold sy at hn
  unfold cs
  by_cases h10 : y < 10
  · rw [if_pos h10] at hn ⊢
    by_cases h1 : b = m + 1 ∧ u m = y
    · omega
    · rw [if_neg h1] at hn; exact absurd rfl hn
  · rw [if_neg h10] at hn ⊢
    exact h _ _ _ hmb hn
theorem sL_F {f : Nat → Nat} {u : Nat → Nat} {W : Nat → Nat → Nat → Nat} (h : FP f W) {q : Nat → Nat} {a : Nat} : ∀ i b, sL u W q i a b ≠ 0 → a ≤ b ∧ sm f q i ≤ b - a
  | 0, b, hn => by
    by_cases e : a = b
    · exact ⟨by omega, Nat.zero_le _⟩
    · have : sL u W q 0 a b = 0 := if_neg e
      exact absurd this hn
  | i + 1, b, hn => by
    obtain ⟨j, hj, hp⟩ := rs_ne _ hn
    have h1 : sL u W q i a (a + j) ≠ 0 := fun e => hp (by show sL u W q i a (a + j) * _ = 0; rw [e, Nat.zero_mul])
    have h2 : sy u W (q i) (a + j) b ≠ 0 := fun e => hp (by show _ * sy u W (q i) (a + j) b = 0; rw [e, Nat.mul_zero])
    have h3 := sL_F h i _ h1
    have h4 := sy_F h (by omega) h2
    refine ⟨by omega, ?_⟩
    show sm f q i + cs f (q i) ≤ b - a
    omega
theorem sm_0 {f q : Nat → Nat} : ∀ n, sm f q n = 0 → ∀ j, j < n → cs f (q j) = 0
  | 0, _, j, hj => absurd hj (Nat.not_lt_zero j)
  | n + 1, h, j, hj => by
    have e : sm f q (n + 1) = sm f q n + cs f (q n) := rfl
    by_cases ej : j = n
    · rw [ej]; omega
    · exact sm_0 n (by omega) j (by omega)
theorem DD_F {G : Gr} (w : WG G) (K : Nat) (u : Nat → Nat) : ∀ h, FP (fw G K) (DD G u h)
  | 0, _, _, _, _, hn => absurd rfl hn
  | h + 1, x, a, b, _, hn => by
    obtain ⟨p, hp, hx, hs⟩ := pS_ne _ hn
    have h1 := sL_F (DD_F w K u h) _ _ hs
    have h2 := fw_cl w K hp
    rw [hx] at h2
    omega
theorem FP_sat {f : Nat → Nat} {W : Nat → Nat → Nat → Nat} (h : FP f W) : FP f (fun x a b => sat (W x a b)) := fun x a b hab hn => h x a b hab (fun e => hn (by show sat _ = 0; rw [e]; rfl))
theorem sy_se {u : Nat → Nat} {W W' : Nat → Nat → Nat → Nat} {y m b : Nat} (h : 10 ≤ y → se (W (y - 10) m b) (W' (y - 10) m b)) : se (sy u W y m b) (sy u W' y m b) := by
  unfold sy
  by_cases h10 : y < 10
  · rw [if_pos h10, if_pos h10]; rfl
  · rw [if_neg h10, if_neg h10]; exact h (by omega)
theorem sL_se {u : Nat → Nat} {W W' : Nat → Nat → Nat → Nat} {q : Nat → Nat} {a b : Nat} : ∀ i m, m ≤ b → (∀ j c d, j < i → 10 ≤ q j → a ≤ c → c ≤ d → d ≤ b → se (W (q j - 10) c d) (W' (q j - 10) c d)) → se (sL u W q i a m) (sL u W' q i a m)
  | 0, _, _, _ => rfl
  | i + 1, m, hm, h => by
    refine rs_se _ (fun j hj => se_mul (sL_se i _ (by omega) (fun j' c d h1 => h j' c d (by omega))) (sy_se (fun h10 => h i _ _ (by omega) h10 (by omega) (by omega) hm)))
/-- where two tables must agree -/
theorem sL_loc {f u : Nat → Nat} {W W' : Nat → Nat → Nat → Nat} {q : Nat → Nat} {a b : Nat} (hab : a ≤ b) (hF : FP f W) (hF' : FP f W') {n : Nat} (hs : ∀ j c d, j < n → 10 ≤ q j → a ≤ c → c ≤ d → d ≤ b → (a < c ∨ d < b) → se (W (q j - 10) c d) (W' (q j - 10) c d)) : ∀ i, i ≤ n → (∀ j, j < i → 10 ≤ q j → (∀ j', j' < i → j' ≠ j → cs f (q j') = 0) → se (W (q j - 10) a b) (W' (q j - 10) a b)) → se (sL u W q i a b) (sL u W' q i a b)
  | 0, _, _ => rfl
  | i + 1, hi, hA => by
    refine rs_se _ (fun j hj => ?_)
    show se (sL u W q i a (a + j) * sy u W (q i) (a + j) b) (sL u W' q i a (a + j) * sy u W' (q i) (a + j) b)
    have small : a + j < b → se (sL u W q i a (a + j)) (sL u W' q i a (a + j)) := fun h => sL_se (b := a + j) i _ (Nat.le_refl _) (fun j' c d h1 h2 h3 h4 h5 => hs j' c d (by omega) h2 h3 h4 (by omega) (by omega))
    have last : se (sL u W q i a a) (sL u W' q i a a) → se (sL u W q i a a * sy u W (q i) a b) (sL u W' q i a a * sy u W' (q i) a b) := by
      intro h
      by_cases h0 : sL u W q i a a = 0
      · have h0' : sL u W' q i a a = 0 := by
          rw [h0] at h
          exact sat_0.mp h.symm
        rw [h0, h0', Nat.zero_mul, Nat.zero_mul]
        rfl
      · refine se_mul h (sy_se (fun h10 => hA i (by omega) h10 (fun j' h1 h2 => ?_)))
        have := (sL_F hF i a h0).2
        exact sm_0 i (by omega) j' (by omega)
    by_cases hjb : a + j < b
    · by_cases hj0 : j = 0
      · have := last (by have := small hjb; rw [hj0] at this; exact this)
        rw [hj0]
        exact this
      · exact se_mul (small hjb) (sy_se (fun h10 => hs i _ _ (by omega) h10 (by omega) (by omega) (Nat.le_refl _) (by omega)))
    · have ejb : a + j = b := by omega
      rw [ejb]
      by_cases hc : cs f (q i) = 0
      · have hB := sL_loc (u := u) hab hF hF' hs i (by omega) (fun j1 h1 h2 h3 => hA j1 (by omega) h2 (fun j' h4 h5 => by
          by_cases e : j' = i
          · rw [e]; exact hc
          · exact h3 j' (by omega) h5))
        by_cases hab' : a < b
        · exact se_mul hB (sy_se (fun h10 => hs i _ _ (by omega) h10 (by omega) (Nat.le_refl _) (Nat.le_refl _) (Or.inl hab')))
        · have e : b = a := by omega
          subst e
          exact last hB
      · have z : ∀ {V : Nat → Nat → Nat → Nat}, FP f V → sy u V (q i) b b = 0 := by
          intro V hV
          refine Classical.byContradiction (fun hn => ?_)
          have := sy_F hV (Nat.le_refl b) hn
          omega
        rw [z hF, z hF', Nat.mul_zero, Nat.mul_zero]
        rfl
/-! the relations are closed -/
theorem wcl_tr {T : Nat → Bool} : ∀ b, b ≤ 6 → ∀ v, v < b → ∀ x y, x < 6 → y < 6 → clI T b (6 * x + v) = true → clI T b (6 * v + y) = true → clI T b (6 * x + y) = true
  | 0, _, v, hv, _, _, _, _, _, _ => absurd hv (Nat.not_lt_zero v)
  | b + 1, hb, v, hv, x, y, hx, hy, h1, h2 => by
    have un : ∀ x y, x < 6 → y < 6 → (clI T (b + 1) (6 * x + y) = true ↔ clI T b (6 * x + y) = true ∨ (clI T b (6 * x + b) = true ∧ clI T b (6 * b + y) = true)) := by
      intro x y hx hy
      show wcl (clI T b) b (6 * x + y) = true ↔ _
      unfold wcl
      rw [show (6 * x + y) / 6 = x by omega, show (6 * x + y) % 6 = y by omega, Bool.or_eq_true, Bool.and_eq_true]
    rw [un x v hx (by omega)] at h1
    rw [un v y (by omega) hy] at h2
    rw [un x y hx hy]
    by_cases e : v = b
    · subst e
      have h1' : clI T v (6 * x + v) = true := by
        rcases h1 with h | ⟨h, _⟩ <;> exact h
      have h2' : clI T v (6 * v + y) = true := by
        rcases h2 with h | ⟨_, h⟩ <;> exact h
      exact Or.inr ⟨h1', h2'⟩
    · have tr := wcl_tr (T := T) b (by omega) v (by omega)
      rcases h1 with h1 | ⟨h1, h1'⟩
      · rcases h2 with h2 | ⟨h2, h2'⟩
        · exact Or.inl (tr x y hx hy h1 h2)
        · exact Or.inr ⟨tr x b hx (by omega) h1 h2, h2'⟩
      · rcases h2 with h2 | ⟨h2, h2'⟩
        · exact Or.inr ⟨h1, tr b y (by omega) hy h1' h2⟩
        · exact Or.inr ⟨h1, h2'⟩
theorem clI_ge {T : Nat → Bool} {k : Nat} : ∀ b, T k = true → clI T b k = true
  | 0, h => h
  | b + 1, h => by
    show wcl (clI T b) b k = true
    unfold wcl
    rw [clI_ge b h]
    rfl
theorem tRow_t {c : Bool} {G : Gr} {E : Nat → Bool} {p k : Nat} : ∀ n i, i < n → tQ c G E p i = true → k = 6 * G.2.1 p + G.2.2.2 p i - 10 → tRow c G E p n k = true
  | 0, i, hi, _, _ => absurd hi (Nat.not_lt_zero i)
  | n + 1, i, hi, h1, h2 => by
    show (tRow c G E p n k || (tQ c G E p n && decide (k = 6 * G.2.1 p + G.2.2.2 p n - 10))) = true
    by_cases e : i = n
    · subst e
      rw [h1, decide_eq_true h2]
      simp
    · rw [tRow_t n i (by omega) h1 h2]
      rfl
theorem tAll_t {c : Bool} {G : Gr} {E : Nat → Bool} {k : Nat} : ∀ n p, p < n → tRow c G E p (G.2.2.1 p) k = true → tAll c G E n k = true
  | 0, p, hp, _ => absurd hp (Nat.not_lt_zero p)
  | n + 1, p, hp, h => by
    show (tAll c G E n k || tRow c G E n (G.2.2.1 n) k) = true
    by_cases e : p = n
    · subst e; rw [h]; simp
    · rw [tAll_t n p (by omega) h]; rfl
theorem sR_0 {f q : Nat → Nat} : ∀ n a, (∀ j, a ≤ j → j < a + n → cs f (q j) = 0) → sR f q n a = 0
  | 0, _, _ => rfl
  | n + 1, a, h => by
    show sR f q n (a + 1) + cs f (q a) = 0
    rw [sR_0 n (a + 1) (fun j h1 h2 => h j (by omega) (by omega)), h a (by omega) (by omega)]
/-- what is derived from the left side alone -/
theorem alone_t {G : Gr} {p j : Nat} (hp : p < G.1) (hj : j < G.2.2.1 p) (h10 : 10 ≤ G.2.2.2 p j) (h : ∀ j', j' < G.2.2.1 p → j' ≠ j → cs (fw G 1000000) (G.2.2.2 p j') = 0) : clB true G (6 * G.2.1 p + (G.2.2.2 p j - 10)) = true := by
  unfold clB
  refine clI_ge 6 (tAll_t G.1 p hp (tRow_t _ j hj ?_ (by omega)))
  have hE : ∀ x, eI G 6 x = decide (fw G 1000000 x = 0) := eI_fI (by decide) 6
  unfold tQ
  rw [decide_eq_true h10, aE_sR hE, aE_sR hE, sR_0 _ _ (fun j' h1 h2 => h j' (by omega) (by omega)), sR_0 _ _ (fun j' h1 h2 => h j' (by omega) (by omega))]
  rfl
theorem bcn_lt {P Q : Nat → Bool} : ∀ n, (∀ k, k < n → P k = true → Q k = true) → (∃ k, k < n ∧ Q k = true ∧ P k = false) → bcn P n < bcn Q n := by
  have le : ∀ n, (∀ k, k < n → P k = true → Q k = true) → bcn P n ≤ bcn Q n := by
    intro n
    induction n with
    | zero => intro _; exact Nat.le_refl _
    | succ n ih =>
      intro h
      show bcn P n + (P n).toNat ≤ bcn Q n + (Q n).toNat
      have h1 := ih (fun k hk => h k (by omega))
      have h2 : (P n).toNat ≤ (Q n).toNat := by
        cases hp : P n with
        | false => exact Nat.zero_le _
        | true => rw [h n (by omega) hp]; exact Nat.le_refl _
      omega
  intro n
  induction n with
  | zero => rintro _ ⟨k, hk, _⟩; exact absurd hk (Nat.not_lt_zero k)
  | succ n ih =>
    rintro h ⟨k, hk, h1, h2⟩
    show bcn P n + (P n).toNat < bcn Q n + (Q n).toNat
    by_cases e : k = n
    · subst e
      have := le k (fun j hj => h j (by omega))
      rw [h1, h2]
      show bcn P k + 0 < bcn Q k + 1
      omega
    · have h3 := ih (fun j hj => h j (by omega)) ⟨k, by omega, h1, h2⟩
      have h4 : (P n).toNat ≤ (Q n).toNat := by
        cases hp : P n with
        | false => exact Nat.zero_le _
        | true => rw [h n (by omega) hp]; exact Nat.le_refl _
      omega
theorem zal_le (G : Gr) (x : Nat) : zal G x ≤ 6 := bcn_le _ 6
theorem zal_lt {G : Gr} {x y : Nat} (hx : x < 6) (hy : y < 6) (h : clB true G (6 * x + y) = true) (hc : clB true G (6 * y + y) = false) : zal G y < zal G x := by
  unfold zal
  refine bcn_lt 6 (fun k hk h1 => ?_) ⟨y, hy, h, hc⟩
  exact wcl_tr 6 (Nat.le_refl _) y hy x k hx hk h h1
/-- no reachable nonterminal is cyclic -/
def ACY (G : Gr) : Prop := ∀ x, x < 6 → rI G 6 x = true → clB true G (6 * x + x) = false
theorem lft6 {G : Gr} (w : WG G) {p : Nat} (hp : p < G.1) : G.2.1 p < 6 := (w.2.1 p hp).1
/-- the counts are settled -/
theorem DD_st {G : Gr} (w : WG G) (hA : ACY G) (u : Nat → Nat) : ∀ k x a b, a ≤ b → x < 6 → rI G 6 x = true → 7 * (b - a) + zal G x < k → ∀ h h', k ≤ h → k ≤ h' → se (DD G u h x a b) (DD G u h' x a b)
  | 0, _, _, _, _, _, _, h, _, _, _, _ => absurd h (Nat.not_lt_zero _)
  | k + 1, x, a, b, hab, hx, hr, hm, h, h', hh, hh' => by
    obtain ⟨h0, rfl⟩ : ∃ h0, h = h0 + 1 := ⟨h - 1, by omega⟩
    obtain ⟨h0', rfl⟩ : ∃ h0', h' = h0' + 1 := ⟨h' - 1, by omega⟩
    refine pS_se _ (fun p hp hl => ?_)
    have hr' : rI G 6 (G.2.1 p) = true := by rw [hl]; exact hr
    refine sL_loc hab (DD_F w 1000000 u h0) (DD_F w 1000000 u h0') (n := G.2.2.1 p) (fun j c d hj h10 h1 h2 h3 h4 => ?_) _ (Nat.le_refl _) (fun j hj h10 hz => ?_)
    · have hy := rI_cl w hp hj hr' h10
      have := zal_le G (G.2.2.2 p j - 10)
      exact DD_st w hA u k _ c d h2 (rI_lt w 6 _ hy) hy (by omega) h0 h0' (by omega) (by omega)
    · have hy := rI_cl w hp hj hr' h10
      have hy6 := rI_lt w 6 _ hy
      have ha := alone_t hp hj h10 hz
      have := zal_lt (lft6 w hp) hy6 ha (hA _ hy6 hy)
      rw [hl] at this
      exact DD_st w hA u k _ a b hab hy6 hy (by omega) h0 h0' (by omega) (by omega)
theorem NN_F {G : Gr} (w : WG G) (u : Nat → Nat) : FP (fw G 1000000) (NN G u) := DD_F w 1000000 u 64
theorem NN_eq {G : Gr} (w : WG G) (hA : ACY G) (u : Nat → Nat) {x a b : Nat} (hab : a ≤ b) (hb : b - a ≤ 8) (hx : x < 6) (hr : rI G 6 x = true) : se (NN G u x a b) (pS G (fun p => sL u (NN G u) (G.2.2.2 p) (G.2.2.1 p) a b) x G.1) := by
  have := zal_le G x
  exact DD_st w hA u 64 x a b hab hx hr (by omega) 64 65 (by omega) (by omega)
theorem NN_tr {G : Gr} {u u' : Nat → Nat} {a a' n : Nat} (hu : ∀ i, i < n → u (a + i) = u' (a' + i)) (x : Nat) : NN G u x a (a + n) = NN G u' x a' (a' + n) := DD_tr hu 64 x 0 n (Nat.zero_le _) (Nat.le_refl _)
/-- a table that knows the counts where they are needed gives the next one -/
theorem NN_step {G : Gr} (w : WG G) (hA : ACY G) (u : Nat → Nat) {W : Nat → Nat → Nat → Nat} (hF : FP (fw G 1000000) W) {x a b : Nat} (hab : a ≤ b) (hb : b - a ≤ 8) (hx : x < 6) (hr : rI G 6 x = true) (hs : ∀ y c d, y < 6 → rI G 6 y = true → a ≤ c → c ≤ d → d ≤ b → (a < c ∨ d < b) → se (W y c d) (NN G u y c d)) (hz : ∀ y, y < 6 → rI G 6 y = true → zal G y < zal G x → se (W y a b) (NN G u y a b)) : se (pS G (fun p => sL u W (G.2.2.2 p) (G.2.2.1 p) a b) x G.1) (NN G u x a b) := by
  refine se_tr ?_ (Eq.symm (NN_eq w hA u hab hb hx hr))
  refine pS_se _ (fun p hp hl => ?_)
  have hr' : rI G 6 (G.2.1 p) = true := by rw [hl]; exact hr
  refine sL_loc hab hF (NN_F w u) (n := G.2.2.1 p) (fun j c d hj h10 h1 h2 h3 h4 => ?_) _ (Nat.le_refl _) (fun j hj h10 hz' => ?_)
  · have hy := rI_cl w hp hj hr' h10
    exact hs _ c d (rI_lt w 6 _ hy) hy h1 h2 h3 h4
  · have hy := rI_cl w hp hj hr' h10
    have hy6 := rI_lt w 6 _ hy
    have := zal_lt (lft6 w hp) hy6 (alone_t hp hj h10 hz') (hA _ hy6 hy)
    rw [hl] at this
    exact hz _ hy6 hy this
