/-! ===== WORDS: lists of letters, and their numbers ===== -/
def enc : List Nat → Nat
  | [] => 0
  | [x] => x + 1
  | [x, y] => 6 * (x + 1) + (y + 1)
  | x :: y :: z :: _ => 36 * (x + 1) + 6 * (y + 1) + (z + 1)
/-- a word with at most three letters -/
def VL (l : List Nat) : Prop := l.length ≤ 3 ∧ ∀ x ∈ l, x < 5
theorem VL.c {l : List Nat} (h : VL l) : l = [] ∨ (∃ x, x < 5 ∧ l = [x]) ∨ (∃ x y, x < 5 ∧ y < 5 ∧ l = [x, y]) ∨ ∃ x y z, x < 5 ∧ y < 5 ∧ z < 5 ∧ l = [x, y, z] := by
  obtain ⟨h1, h2⟩ := h
  match l, h1, h2 with
  | [], _, _ => exact Or.inl rfl
  | [x], _, h2 => exact Or.inr (Or.inl ⟨x, h2 x (by simp), rfl⟩)
  | [x, y], _, h2 => exact Or.inr (Or.inr (Or.inl ⟨x, y, h2 x (by simp), h2 y (by simp), rfl⟩))
  | [x, y, z], _, h2 => exact Or.inr (Or.inr (Or.inr ⟨x, y, z, h2 x (by simp), h2 y (by simp), h2 z (by simp), rfl⟩))
  | x :: y :: z :: u :: l, h1, _ => simp at h1
theorem VL.nil : VL [] := ⟨by simp, by simp⟩
theorem VL.one {x : Nat} (h : x < 5) : VL [x] := ⟨by simp, by simpa using h⟩
theorem VL.take {l : List Nat} (k : Nat) (h : ∀ x ∈ l, x < 5) (hk : k ≤ 3) : VL (l.take k) := ⟨Nat.le_trans (List.length_take_le k l) hk, fun x hx => h x (List.mem_of_mem_take hx)⟩
theorem enc_lt {l : List Nat} (h : VL l) : enc l < 216 := by
  rcases h.c with rfl | ⟨x, hx, rfl⟩ | ⟨x, y, hx, hy, rfl⟩ | ⟨x, y, z, hx, hy, hz, rfl⟩ <;> simp only [enc] <;> omega
theorem enc_inj {a b : List Nat} (ha : VL a) (hb : VL b) (h : enc a = enc b) : a = b := by
  rcases ha.c with rfl | ⟨x, hx, rfl⟩ | ⟨x, y, hx, hy, rfl⟩ | ⟨x, y, z, hx, hy, hz, rfl⟩ <;> rcases hb.c with rfl | ⟨x', hx', rfl⟩ | ⟨x', y', hx', hy', rfl⟩ | ⟨x', y', z', hx', hy', hz', rfl⟩ <;> simp only [enc] at h <;> first
    | rfl
    | (exfalso; omega)
    | (have e1 : x = x' := by omega
       subst e1; rfl)
    | (have e1 : x = x' := by omega
       have e2 : y = y' := by omega
       subst e1; subst e2; rfl)
    | (have e1 : x = x' := by omega
       have e2 : y = y' := by omega
       have e3 : z = z' := by omega
       subst e1; subst e2; subst e3; rfl)
/-- how many letters a number has -/
def lo (c : Nat) : Nat := if c = 0 then 0 else if c < 6 then 1 else if c < 36 then 2 else 3
def pw (k : Nat) : Nat := if k = 0 then 1 else if k = 1 then 6 else if k = 2 then 36 else 216
def ct (c k : Nat) : Nat := if k < lo c then c / pw (lo c - k) else c
def jo (c d : Nat) : Nat := c * pw (lo (ct d (3 - lo c))) + ct d (3 - lo c)
theorem lo_le (c : Nat) : lo c ≤ 3 := by
  unfold lo
  split
  · omega
  · split
    · omega
    · split <;> omega
theorem pw_pos (k : Nat) : 0 < pw k ∧ pw k ≤ 216 := by
  unfold pw
  split
  · omega
  · split
    · omega
    · split <;> omega
theorem lo_enc {l : List Nat} (h : VL l) : lo (enc l) = l.length := by
  rcases h.c with rfl | ⟨x, hx, rfl⟩ | ⟨x, y, hx, hy, rfl⟩ | ⟨x, y, z, hx, hy, hz, rfl⟩
  · rfl
  · simp only [enc]
    unfold lo
    rw [if_neg (by omega), if_pos (by omega)]; rfl
  · simp only [enc]
    unfold lo
    rw [if_neg (by omega), if_neg (by omega), if_pos (by omega)]; rfl
  · simp only [enc]
    unfold lo
    rw [if_neg (by omega), if_neg (by omega), if_neg (by omega)]; rfl
theorem ct_enc {l : List Nat} (h : VL l) (k : Nat) : ct (enc l) k = enc (l.take k) := by
  unfold ct
  rw [lo_enc h]
  by_cases hk : k < l.length
  · rw [if_pos hk]
    rcases h.c with rfl | ⟨x, hx, rfl⟩ | ⟨x, y, hx, hy, rfl⟩ | ⟨x, y, z, hx, hy, hz, rfl⟩
    · simp at hk
    · have : k = 0 := by simpa using hk
      subst this
      show (x + 1) / 6 = 0
      omega
    · have : k = 0 ∨ k = 1 := by simp at hk; omega
      rcases this with rfl | rfl
      · show (6 * (x + 1) + (y + 1)) / 36 = 0
        omega
      · show (6 * (x + 1) + (y + 1)) / 6 = x + 1
        omega
    · have : k = 0 ∨ k = 1 ∨ k = 2 := by simp at hk; omega
      rcases this with rfl | rfl | rfl
      · show (36 * (x + 1) + 6 * (y + 1) + (z + 1)) / 216 = 0
        omega
      · show (36 * (x + 1) + 6 * (y + 1) + (z + 1)) / 36 = x + 1
        omega
      · show (36 * (x + 1) + 6 * (y + 1) + (z + 1)) / 6 = 6 * (x + 1) + (y + 1)
        omega
  · rw [if_neg hk, List.take_of_length_le (by omega)]
theorem jo_enc {a b : List Nat} (ha : VL a) (hb : VL b) : jo (enc a) (enc b) = enc ((a ++ b).take 3) := by
  unfold jo
  rw [lo_enc ha, ct_enc hb, lo_enc (VL.take _ hb.2 (by omega))]
  rcases ha.c with rfl | ⟨x, hx, rfl⟩ | ⟨x, y, hx, hy, rfl⟩ | ⟨x, y, z, hx, hy, hz, rfl⟩ <;> rcases hb.c with rfl | ⟨x', hx', rfl⟩ | ⟨x', y', hx', hy', rfl⟩ | ⟨x', y', z', hx', hy', hz', rfl⟩ <;> simp [enc, pw] <;> omega
/-! sets of words -/
abbrev WLs : Type := List Nat → Prop
def VS (W : WLs) : Prop := ∀ l, W l → VL l
def JL (A B : WLs) : WLs := fun l => ∃ a b, A a ∧ B b ∧ l = (a ++ b).take 3
theorem JL.vs {A B : WLs} (hA : VS A) (hB : VS B) : VS (JL A B) := by
  rintro l ⟨a, b, ha, hb, rfl⟩
  refine VL.take 3 (fun x hx => ?_) (Nat.le_refl 3)
  rcases List.mem_append.mp hx with h | h
  · exact (hA a ha).2 x h
  · exact (hB b hb).2 x h
theorem take3_l (a b : List Nat) : (a.take 3 ++ b).take 3 = (a ++ b).take 3 := by
  rw [List.take_append, List.take_append, List.take_take, List.length_take]
  congr 2
  omega
theorem take3_r (a b : List Nat) : (a ++ b.take 3).take 3 = (a ++ b).take 3 := by
  rw [List.take_append, List.take_append, List.take_take]
  congr 2
  omega
theorem JL.assoc {A B C : WLs} : JL (JL A B) C = JL A (JL B C) := by
  funext l
  apply propext
  constructor
  · rintro ⟨ab, c, ⟨a, b, ha, hb, rfl⟩, hc, rfl⟩
    exact ⟨a, _, ha, ⟨b, c, hb, hc, rfl⟩, by rw [take3_l, take3_r, List.append_assoc]⟩
  · rintro ⟨a, bc, ha, ⟨b, c, hb, hc, rfl⟩, rfl⟩
    exact ⟨_, c, ⟨a, b, ha, hb, rfl⟩, hc, by rw [take3_l, take3_r, List.append_assoc]⟩
def L1 : WLs := fun l => l = []
theorem JL.l1 {A : WLs} (hA : VS A) : JL L1 A = A := by
  funext l
  apply propext
  constructor
  · rintro ⟨a, b, rfl, hb, rfl⟩
    rw [List.nil_append, List.take_of_length_le (hA b hb).1]
    exact hb
  · intro h
    exact ⟨[], l, rfl, h, by rw [List.nil_append, List.take_of_length_le (hA l h).1]⟩
theorem JL.r1 {A : WLs} (hA : VS A) : JL A L1 = A := by
  funext l
  apply propext
  constructor
  · rintro ⟨a, b, ha, rfl, rfl⟩
    rw [List.append_nil, List.take_of_length_le (hA a ha).1]
    exact ha
  · intro h
    exact ⟨l, [], h, rfl, by rw [List.append_nil, List.take_of_length_le (hA l h).1]⟩
theorem JL.mono {A B A' B' : WLs} (hA : ∀ l, A l → A' l) (hB : ∀ l, B l → B' l) : ∀ l, JL A B l → JL A' B' l := by
  rintro l ⟨a, b, ha, hb, rfl⟩
  exact ⟨a, b, hA a ha, hB b hb, rfl⟩
/-- an array that holds a set of words, from an offset on -/
def SA (f : Nat → Int32) (o : Nat) (W : WLs) : Prop := ∀ c, c < 216 → (f (o + c) = nI 1 ∧ ∃ l, W l ∧ enc l = c) ∨ (f (o + c) = nI 0 ∧ ¬ ∃ l, W l ∧ enc l = c)
theorem SA.t {f : Nat → Int32} {o c : Nat} {W : WLs} (h : SA f o W) (hc : c < 216) : (¬ f (o + c) = 0) = ∃ l, W l ∧ enc l = c := by
  apply propext
  rcases h c hc with ⟨h1, h2⟩ | ⟨h1, h2⟩
  · exact ⟨fun _ => h2, fun _ => by rw [h1]; exact n1_0⟩
  · exact ⟨fun h => absurd (by rw [h1]; exact n0_0) h, fun h => absurd h h2⟩
theorem SA.ext {f : Nat → Int32} {o : Nat} {W W' : WLs} (h : SA f o W) (h' : ∀ c, c < 216 → ((∃ l, W l ∧ enc l = c) ↔ ∃ l, W' l ∧ enc l = c)) : SA f o W' := by
  intro c hc
  rcases h c hc with ⟨h1, h2⟩ | ⟨h1, h2⟩
  · exact Or.inl ⟨h1, (h' c hc).mp h2⟩
  · exact Or.inr ⟨h1, fun z => h2 ((h' c hc).mpr z)⟩
/-- the words of a symbol; of n symbols from i on, with a set behind them, or ahead of them -/
def sW (F : Nat → WLs) (y : Nat) : WLs := if y < 10 then (fun l => l = [y]) else F (y - 10)
def sqR (F : Nat → WLs) (f : Nat → Nat) (i : Nat) : Nat → WLs → WLs
  | 0, B => B
  | n + 1, B => JL (sW F (f i)) (sqR F f (i + 1) n B)
def sqL (F : Nat → WLs) (f : Nat → Nat) (A : WLs) (i : Nat) : Nat → WLs
  | 0 => A
  | n + 1 => JL (sqL F f A i n) (sW F (f (i + n)))
theorem sqR_snoc (F : Nat → WLs) (f : Nat → Nat) (n i : Nat) (B : WLs) : sqR F f i (n + 1) B = sqR F f i n (JL (sW F (f (i + n))) B) := by
  induction n generalizing i with
  | zero => rfl
  | succ n ih =>
    show JL (sW F (f i)) (sqR F f (i + 1) (n + 1) B) = JL (sW F (f i)) (sqR F f (i + 1) n _)
    rw [ih (i + 1), show i + 1 + n = i + (n + 1) by omega]
theorem sqLR (F : Nat → WLs) (f : Nat → Nat) (n i : Nat) (A B : WLs) : JL (sqL F f A i n) B = JL A (sqR F f i n B) := by
  induction n generalizing B with
  | zero => rfl
  | succ n ih =>
    show JL (JL (sqL F f A i n) (sW F (f (i + n)))) B = JL A (sqR F f i (n + 1) B)
    rw [JL.assoc, ih, sqR_snoc]
