/-! ===== THE PURE HEAP: ints, longs, grammar numbers, by cell and place ===== -/
abbrev PH : Type := (Nat → Nat → Int32) × (Nat → Nat → Int64) × (Nat → Nat → Nat)
def pset {α : Type} (f : Nat → Nat → α) (q k : Nat) (v : α) : Nat → Nat → α := fun a => if a = q then (fun b => if b = k then v else f q b) else f a
def si (σ : PH) (q k : Nat) (v : Int32) : PH := (pset σ.1 q k v, σ.2.1, σ.2.2)
def sl (σ : PH) (q k : Nat) (v : Int64) : PH := (σ.1, pset σ.2.1 q k v, σ.2.2)
def sg (σ : PH) (q k : Nat) (v : Nat) : PH := (σ.1, σ.2.1, pset σ.2.2 q k v)
theorem pset_q {α : Type} (f : Nat → Nat → α) (q k : Nat) (v : α) : pset f q k v q = (fun b => if b = k then v else f q b) := by simp [pset]
theorem pset_o {α : Type} (f : Nat → Nat → α) {q a : Nat} (k : Nat) (v : α) (h : a ≠ q) : pset f q k v a = f a := by simp [pset, h]
/-- the world's constants: the tables' numbers, where each cell lies, the classes of arrays, where the static array lies, how many cells there are, which cells may change -/
abbrev GE : Type := va_G × (Nat → Nat) × (Nat → ClassId) × Nat × Nat × (Nat → Prop)
def gId (g k : Nat) : Nat := 30 + 6 * g + k
def wId (w k : Nat) : Nat := 66 + 2 * w + k
def cId (c k : Nat) : Nat := 138 + 5 * c + k
def tLen (c : Nat) : Nat := if c = 0 then 486 else 4686
abbrev ER : Type := GE → (Nat → Int32) → (Nat → Int64) → (Nat → Nat) → va_E
def fl11 (E : GE) (i : Nat → Int32) (l : Nat → Int64) (g : Nat → Nat) : List Value := [.ref (E.2.1 1), .ref (E.2.1 3), .ref (E.2.1 5), .ref (E.2.1 7), .ref (E.2.1 13), .ref (E.2.1 21), .ref (E.2.1 24), .ref (E.2.1 29), .ref (E.2.1 (gId (g 8) 0))]
def fl8 (E : GE) (i : Nat → Int32) (l : Nat → Int64) (g : Nat → Nat) : List Value := [.ref (E.2.1 2), .int (i 1)]
def fl7 (E : GE) (i : Nat → Int32) (l : Nat → Int64) (g : Nat → Nat) : List Value := [.ref (E.2.1 4), .ref (E.2.1 (gId (g 1) 0)), .int (i 2), .int (i 3), .int (i 4), .int (i 5)]
def fl5 (E : GE) (i : Nat → Int32) (l : Nat → Int64) (g : Nat → Nat) : List Value := [.ref (E.2.1 6), .int (i 1)]
def fl9 (E : GE) (i : Nat → Int32) (l : Nat → Int64) (g : Nat → Nat) : List Value := [.ref (E.2.1 8), .ref (E.2.1 9), .ref (E.2.1 10), .ref (E.2.1 11), .ref (E.2.1 12), .int (i 5), .int (i 6), .int (i 7), .int (i 8), .int (i 9)]
def fl3 (E : GE) (i : Nat → Int32) (l : Nat → Int64) (g : Nat → Nat) : List Value := [.ref (E.2.1 (wId 0 0)), .ref (E.2.1 14), .ref (E.2.1 15), .ref (E.2.1 16), .ref (E.2.1 17), .ref (E.2.1 18), .ref (E.2.1 19), .ref (E.2.1 20)]
def fl6 (E : GE) (i : Nat → Int32) (l : Nat → Int64) (g : Nat → Nat) : List Value := [.ref (E.2.1 22), .ref (E.2.1 23), .int (i 2), .int (i 3)]
def fl2 (E : GE) (i : Nat → Int32) (l : Nat → Int64) (g : Nat → Nat) : List Value := [.ref (E.2.1 (cId 0 0)), .ref (E.2.1 25), .ref (E.2.1 26), .ref (E.2.1 27), .ref (E.2.1 28), .int (i 5), .int (i 6), .int (i 7), .int (i 8), .int (i 9), .int (i 10)]
def fl0 (E : GE) (i : Nat → Int32) (l : Nat → Int64) (g : Nat → Nat) : List Value := [.ref (E.2.1 (cId 1 0)), .int (i 1), .int (i 2)]
def fl4 (E : GE) (q : Nat) (i : Nat → Int32) (l : Nat → Int64) (g : Nat → Nat) : List Value := [.ref (E.2.1 (gId q 1)), .ref (E.2.1 (gId q 2)), .ref (E.2.1 (gId q 3)), .ref (E.2.1 (gId q 4)), .ref (E.2.1 (gId q 5)), .int (i 5), .int (i 6)]
def fl10 (E : GE) (q : Nat) (i : Nat → Int32) (l : Nat → Int64) (g : Nat → Nat) : List Value := [.ref (E.2.1 (wId q 1)), .long (l 1), .long (l 2)]
def fl1 (E : GE) (q : Nat) (i : Nat → Int32) (l : Nat → Int64) (g : Nat → Nat) : List Value := [.ref (E.2.1 (cId q 1)), .ref (E.2.1 (cId q 2)), .ref (E.2.1 (cId q 3)), .ref (E.2.1 (cId q 4))]
def fl12 (E : GE) (i : Nat → Int32) (l : Nat → Int64) (g : Nat → Nat) : List Value := [.ref (E.2.1 149), .ref (E.2.1 150), .int (i 2), .ref (E.2.1 151), .int (i 4), .int (i 5), .ref (E.2.1 152), .int (i 7), .ref (E.2.1 153), .ref (E.2.1 154), .ref (E.2.1 155), .ref (E.2.1 156), .ref (E.2.1 157), .ref (E.2.1 158), .ref (E.2.1 159), .ref (E.2.1 160), .ref (E.2.1 161), .ref (E.2.1 162), .ref (E.2.1 163), .ref (E.2.1 164), .ref (E.2.1 165), .int (i 21), .int (i 22), .ref (E.2.1 166), .int (i 24), .ref (E.2.1 167), .ref (E.2.1 168), .ref (E.2.1 169), .ref (E.2.1 170), .ref (E.2.1 171), .ref (E.2.1 172), .ref (E.2.1 173), .long (l 32)]
def entT : List ER := [
  fun E i l g => .inr (11, fl11 E i l g),
  fun E i l g => .inr (8, fl8 E i l g),
  fun E i _ _ => .inl (E.2.2.1 0, 100, .inl i),
  fun E i l g => .inr (7, fl7 E i l g),
  fun E i _ _ => .inl (E.2.2.1 0, 6, .inl i),
  fun E i l g => .inr (5, fl5 E i l g),
  fun E _ _ g => .inl (E.2.2.1 4, 4, .inr (.inr (.inr (.inr fun j => some (E.2.1 (gId (g j) 0)))))),
  fun E i l g => .inr (9, fl9 E i l g),
  fun E i _ _ => .inl (E.2.2.1 0, 6, .inl i),
  fun E i _ _ => .inl (E.2.2.1 0, 96, .inl i),
  fun E i _ _ => .inl (E.2.2.1 0, 6, .inl i),
  fun E i _ _ => .inl (E.2.2.1 0, 6, .inl i),
  fun E i _ _ => .inl (E.2.2.1 0, 6, .inl i),
  fun E i l g => .inr (3, fl3 E i l g),
  fun E _ _ _ => .inl (E.2.2.1 3, 5, .inr (.inr (.inr (.inr fun j => some (E.2.1 (wId (1 + j) 0)))))),
  fun E _ _ _ => .inl (E.2.2.1 3, 6, .inr (.inr (.inr (.inr fun j => some (E.2.1 (wId (6 + j) 0)))))),
  fun E _ _ _ => .inl (E.2.2.1 3, 6, .inr (.inr (.inr (.inr fun j => some (E.2.1 (wId (12 + j) 0)))))),
  fun E _ _ _ => .inl (E.2.2.1 3, 16, .inr (.inr (.inr (.inr fun j => some (E.2.1 (wId (18 + j) 0)))))),
  fun E _ _ _ => .inl (E.2.2.1 3, 2, .inr (.inr (.inr (.inr fun j => some (E.2.1 (wId (34 + j) 0)))))),
  fun E i _ _ => .inl (E.2.2.1 0, 6, .inl i),
  fun E i _ _ => .inl (E.2.2.1 0, 6, .inl i),
  fun E i l g => .inr (6, fl6 E i l g),
  fun E i _ _ => .inl (E.2.2.1 0, 301, .inl i),
  fun E i _ _ => .inl (E.2.2.1 0, 60, .inl i),
  fun E i l g => .inr (2, fl2 E i l g),
  fun E i _ _ => .inl (E.2.2.1 0, 802, .inl i),
  fun E i _ _ => .inl (E.2.2.1 0, 7218, .inl i),
  fun E i _ _ => .inl (E.2.2.1 0, 400, .inl i),
  fun E i _ _ => .inl (E.2.2.1 0, 2, .inl i),
  fun E i l g => .inr (0, fl0 E i l g),
  fun E i l g => .inr (4, fl4 E 0 i l g),
  fun E i _ _ => .inl (E.2.2.1 0, 16, .inl i),
  fun E i _ _ => .inl (E.2.2.1 0, 16, .inl i),
  fun E i _ _ => .inl (E.2.2.1 0, 80, .inl i),
  fun E i _ _ => .inl (E.2.2.1 0, 6, .inl i),
  fun E i _ _ => .inl (E.2.2.1 0, 6, .inl i),
  fun E i l g => .inr (4, fl4 E 1 i l g),
  fun E i _ _ => .inl (E.2.2.1 0, 16, .inl i),
  fun E i _ _ => .inl (E.2.2.1 0, 16, .inl i),
  fun E i _ _ => .inl (E.2.2.1 0, 80, .inl i),
  fun E i _ _ => .inl (E.2.2.1 0, 6, .inl i),
  fun E i _ _ => .inl (E.2.2.1 0, 6, .inl i),
  fun E i l g => .inr (4, fl4 E 2 i l g),
  fun E i _ _ => .inl (E.2.2.1 0, 16, .inl i),
  fun E i _ _ => .inl (E.2.2.1 0, 16, .inl i),
  fun E i _ _ => .inl (E.2.2.1 0, 80, .inl i),
  fun E i _ _ => .inl (E.2.2.1 0, 6, .inl i),
  fun E i _ _ => .inl (E.2.2.1 0, 6, .inl i),
  fun E i l g => .inr (4, fl4 E 3 i l g),
  fun E i _ _ => .inl (E.2.2.1 0, 16, .inl i),
  fun E i _ _ => .inl (E.2.2.1 0, 16, .inl i),
  fun E i _ _ => .inl (E.2.2.1 0, 80, .inl i),
  fun E i _ _ => .inl (E.2.2.1 0, 6, .inl i),
  fun E i _ _ => .inl (E.2.2.1 0, 6, .inl i),
  fun E i l g => .inr (4, fl4 E 4 i l g),
  fun E i _ _ => .inl (E.2.2.1 0, 16, .inl i),
  fun E i _ _ => .inl (E.2.2.1 0, 16, .inl i),
  fun E i _ _ => .inl (E.2.2.1 0, 80, .inl i),
  fun E i _ _ => .inl (E.2.2.1 0, 6, .inl i),
  fun E i _ _ => .inl (E.2.2.1 0, 6, .inl i),
  fun E i l g => .inr (4, fl4 E 5 i l g),
  fun E i _ _ => .inl (E.2.2.1 0, 16, .inl i),
  fun E i _ _ => .inl (E.2.2.1 0, 16, .inl i),
  fun E i _ _ => .inl (E.2.2.1 0, 80, .inl i),
  fun E i _ _ => .inl (E.2.2.1 0, 6, .inl i),
  fun E i _ _ => .inl (E.2.2.1 0, 6, .inl i),
  fun E i l g => .inr (10, fl10 E 0 i l g),
  fun E _ l _ => .inl (E.2.2.1 2, 6, .inr (.inl l)),
  fun E i l g => .inr (10, fl10 E 1 i l g),
  fun E _ l _ => .inl (E.2.2.1 2, 6, .inr (.inl l)),
  fun E i l g => .inr (10, fl10 E 2 i l g),
  fun E _ l _ => .inl (E.2.2.1 2, 6, .inr (.inl l)),
  fun E i l g => .inr (10, fl10 E 3 i l g),
  fun E _ l _ => .inl (E.2.2.1 2, 6, .inr (.inl l)),
  fun E i l g => .inr (10, fl10 E 4 i l g),
  fun E _ l _ => .inl (E.2.2.1 2, 6, .inr (.inl l)),
  fun E i l g => .inr (10, fl10 E 5 i l g),
  fun E _ l _ => .inl (E.2.2.1 2, 6, .inr (.inl l)),
  fun E i l g => .inr (10, fl10 E 6 i l g),
  fun E _ l _ => .inl (E.2.2.1 2, 6, .inr (.inl l)),
  fun E i l g => .inr (10, fl10 E 7 i l g),
  fun E _ l _ => .inl (E.2.2.1 2, 6, .inr (.inl l)),
  fun E i l g => .inr (10, fl10 E 8 i l g),
  fun E _ l _ => .inl (E.2.2.1 2, 6, .inr (.inl l)),
  fun E i l g => .inr (10, fl10 E 9 i l g),
  fun E _ l _ => .inl (E.2.2.1 2, 6, .inr (.inl l)),
  fun E i l g => .inr (10, fl10 E 10 i l g),
  fun E _ l _ => .inl (E.2.2.1 2, 6, .inr (.inl l)),
  fun E i l g => .inr (10, fl10 E 11 i l g),
  fun E _ l _ => .inl (E.2.2.1 2, 6, .inr (.inl l)),
  fun E i l g => .inr (10, fl10 E 12 i l g),
  fun E _ l _ => .inl (E.2.2.1 2, 6, .inr (.inl l)),
  fun E i l g => .inr (10, fl10 E 13 i l g),
  fun E _ l _ => .inl (E.2.2.1 2, 6, .inr (.inl l)),
  fun E i l g => .inr (10, fl10 E 14 i l g),
  fun E _ l _ => .inl (E.2.2.1 2, 6, .inr (.inl l)),
  fun E i l g => .inr (10, fl10 E 15 i l g),
  fun E _ l _ => .inl (E.2.2.1 2, 6, .inr (.inl l)),
  fun E i l g => .inr (10, fl10 E 16 i l g),
  fun E _ l _ => .inl (E.2.2.1 2, 6, .inr (.inl l)),
  fun E i l g => .inr (10, fl10 E 17 i l g),
  fun E _ l _ => .inl (E.2.2.1 2, 6, .inr (.inl l)),
  fun E i l g => .inr (10, fl10 E 18 i l g),
  fun E _ l _ => .inl (E.2.2.1 2, 6, .inr (.inl l)),
  fun E i l g => .inr (10, fl10 E 19 i l g),
  fun E _ l _ => .inl (E.2.2.1 2, 6, .inr (.inl l)),
  fun E i l g => .inr (10, fl10 E 20 i l g),
  fun E _ l _ => .inl (E.2.2.1 2, 6, .inr (.inl l)),
  fun E i l g => .inr (10, fl10 E 21 i l g),
  fun E _ l _ => .inl (E.2.2.1 2, 6, .inr (.inl l)),
  fun E i l g => .inr (10, fl10 E 22 i l g),
  fun E _ l _ => .inl (E.2.2.1 2, 6, .inr (.inl l)),
  fun E i l g => .inr (10, fl10 E 23 i l g),
  fun E _ l _ => .inl (E.2.2.1 2, 6, .inr (.inl l)),
  fun E i l g => .inr (10, fl10 E 24 i l g),
  fun E _ l _ => .inl (E.2.2.1 2, 6, .inr (.inl l)),
  fun E i l g => .inr (10, fl10 E 25 i l g),
  fun E _ l _ => .inl (E.2.2.1 2, 6, .inr (.inl l)),
  fun E i l g => .inr (10, fl10 E 26 i l g),
  fun E _ l _ => .inl (E.2.2.1 2, 6, .inr (.inl l)),
  fun E i l g => .inr (10, fl10 E 27 i l g),
  fun E _ l _ => .inl (E.2.2.1 2, 6, .inr (.inl l)),
  fun E i l g => .inr (10, fl10 E 28 i l g),
  fun E _ l _ => .inl (E.2.2.1 2, 6, .inr (.inl l)),
  fun E i l g => .inr (10, fl10 E 29 i l g),
  fun E _ l _ => .inl (E.2.2.1 2, 6, .inr (.inl l)),
  fun E i l g => .inr (10, fl10 E 30 i l g),
  fun E _ l _ => .inl (E.2.2.1 2, 6, .inr (.inl l)),
  fun E i l g => .inr (10, fl10 E 31 i l g),
  fun E _ l _ => .inl (E.2.2.1 2, 6, .inr (.inl l)),
  fun E i l g => .inr (10, fl10 E 32 i l g),
  fun E _ l _ => .inl (E.2.2.1 2, 6, .inr (.inl l)),
  fun E i l g => .inr (10, fl10 E 33 i l g),
  fun E _ l _ => .inl (E.2.2.1 2, 6, .inr (.inl l)),
  fun E i l g => .inr (10, fl10 E 34 i l g),
  fun E _ l _ => .inl (E.2.2.1 2, 6, .inr (.inl l)),
  fun E i l g => .inr (10, fl10 E 35 i l g),
  fun E _ l _ => .inl (E.2.2.1 2, 6, .inr (.inl l)),
  fun E i l g => .inr (1, fl1 E 0 i l g),
  fun E i _ _ => .inl (E.2.2.1 0, 8, .inl i),
  fun E i _ _ => .inl (E.2.2.1 0, 81, .inl i),
  fun E i _ _ => .inl (E.2.2.1 0, 486, .inl i),
  fun E i _ _ => .inl (E.2.2.1 0, 9, .inl i),
  fun E i l g => .inr (1, fl1 E 1 i l g),
  fun E i _ _ => .inl (E.2.2.1 0, 8, .inl i),
  fun E i _ _ => .inl (E.2.2.1 0, 81, .inl i),
  fun E i _ _ => .inl (E.2.2.1 0, 4686, .inl i),
  fun E i _ _ => .inl (E.2.2.1 0, 9, .inl i),
  fun E i l g => .inr (12, fl12 E i l g),
  fun E i _ _ => .inl (E.2.2.1 0, 113, .inl i),
  fun E i _ _ => .inl (E.2.2.1 0, 452, .inl i),
  fun E i _ _ => .inl (E.2.2.1 0, 100, .inl i),
  fun E i _ _ => .inl (E.2.2.1 0, 60, .inl i),
  fun E i _ _ => .inl (E.2.2.1 1, 6, .inl i),
  fun E i _ _ => .inl (E.2.2.1 0, 6, .inl i),
  fun E i _ _ => .inl (E.2.2.1 1, 6, .inl i),
  fun E i _ _ => .inl (E.2.2.1 1, 36, .inl i),
  fun E i _ _ => .inl (E.2.2.1 1, 36, .inl i),
  fun E i _ _ => .inl (E.2.2.1 1, 1296, .inl i),
  fun E i _ _ => .inl (E.2.2.1 1, 1296, .inl i),
  fun E i _ _ => .inl (E.2.2.1 1, 3456, .inl i),
  fun E i _ _ => .inl (E.2.2.1 1, 216, .inl i),
  fun E i _ _ => .inl (E.2.2.1 1, 216, .inl i),
  fun E i _ _ => .inl (E.2.2.1 1, 216, .inl i),
  fun E i _ _ => .inl (E.2.2.1 1, 24192, .inl i),
  fun E i _ _ => .inl (E.2.2.1 0, 113, .inl i),
  fun E i _ _ => .inl (E.2.2.1 0, 8, .inl i),
  fun E i _ _ => .inl (E.2.2.1 0, 900, .inl i),
  fun E _ l _ => .inl (E.2.2.1 2, 486, .inr (.inl l)),
  fun E _ l _ => .inl (E.2.2.1 2, 9, .inr (.inl l)),
  fun E _ l _ => .inl (E.2.2.1 2, 9, .inr (.inl l)),
  fun E _ l _ => .inl (E.2.2.1 2, 6, .inr (.inl l)),
  fun E i _ _ => .inl (E.2.2.1 0, 900, .inl i),
  fun E _ l _ => .inl (E.2.2.1 2, 8109, .inr (.inl l))]
def entA (q : Nat) : ER := entT.getD q (fun _ _ _ _ => .inr (0, []))
def ent (E : GE) (σ : PH) (q : Nat) : va_E := entA q E (σ.1 q) (σ.2.1 q) (σ.2.2 q)
def wsE (E : GE) (σ : PH) : va_W := (List.range E.2.2.2.2.1).map (fun q => (E.2.1 q, ent E σ q))
def AE (E : GE) : Nat → Prop := E.2.2.2.2.2
def tyE (E : GE) : List (ClassId × FieldType) := [(E.2.2.1 0, .int), (E.2.2.1 1, .boolean), (E.2.2.1 2, .long), (E.2.2.1 3, .object RX10), (E.2.2.1 4, .object RX4)]
def isI (B q n : Nat) : Prop := q < B ∧ ∀ (E : GE) (i : Nat → Int32) (l : Nat → Int64) (g : Nat → Nat), entA q E i l g = .inl (E.2.2.1 0, n, .inl i)
def isZ (B q n : Nat) : Prop := q < B ∧ ∀ (E : GE) (i : Nat → Int32) (l : Nat → Int64) (g : Nat → Nat), entA q E i l g = .inl (E.2.2.1 1, n, .inl i)
def isJ (B q n : Nat) : Prop := q < B ∧ ∀ (E : GE) (i : Nat → Int32) (l : Nat → Int64) (g : Nat → Nat), entA q E i l g = .inl (E.2.2.1 2, n, .inr (.inl l))
def isW (B q n b : Nat) : Prop := q < B ∧ ∀ (E : GE) (i : Nat → Int32) (l : Nat → Int64) (g : Nat → Nat), entA q E i l g = .inl (E.2.2.1 3, n, .inr (.inr (.inr (.inr fun j => some (E.2.1 (wId (b + j) 0))))))
/-- cell q is an object of class ci, with these fields -/
def isO (B q ci : Nat) (F : GE → (Nat → Int32) → (Nat → Int64) → (Nat → Nat) → List Value) : Prop := q < B ∧ ∀ (E : GE) (i : Nat → Int32) (l : Nat → Int64) (g : Nat → Nat), entA q E i l g = .inr (ci, F E i l g)
theorem oX11 : isO 148 0 11 fl11 := ⟨by decide, fun _ _ _ _ => rfl⟩
theorem oX8 : isO 148 1 8 fl8 := ⟨by decide, fun _ _ _ _ => rfl⟩
theorem oX7 : isO 148 3 7 fl7 := ⟨by decide, fun _ _ _ _ => rfl⟩
theorem oX5 : isO 148 5 5 fl5 := ⟨by decide, fun _ _ _ _ => rfl⟩
theorem oX9 : isO 148 7 9 fl9 := ⟨by decide, fun _ _ _ _ => rfl⟩
theorem oX3 : isO 148 13 3 fl3 := ⟨by decide, fun _ _ _ _ => rfl⟩
theorem oX6 : isO 148 21 6 fl6 := ⟨by decide, fun _ _ _ _ => rfl⟩
theorem oX2 : isO 148 24 2 fl2 := ⟨by decide, fun _ _ _ _ => rfl⟩
theorem oX0 : isO 148 29 0 fl0 := ⟨by decide, fun _ _ _ _ => rfl⟩
theorem oX12 : isO 174 148 12 fl12 := ⟨by decide, fun _ _ _ _ => rfl⟩
theorem ar2 : isI 148 2 100 := ⟨by decide, fun _ _ _ _ => rfl⟩
theorem ar4 : isI 148 4 6 := ⟨by decide, fun _ _ _ _ => rfl⟩
theorem ar8 : isI 148 8 6 := ⟨by decide, fun _ _ _ _ => rfl⟩
theorem ar9 : isI 148 9 96 := ⟨by decide, fun _ _ _ _ => rfl⟩
theorem ar10 : isI 148 10 6 := ⟨by decide, fun _ _ _ _ => rfl⟩
theorem ar11 : isI 148 11 6 := ⟨by decide, fun _ _ _ _ => rfl⟩
theorem ar12 : isI 148 12 6 := ⟨by decide, fun _ _ _ _ => rfl⟩
theorem ar19 : isI 148 19 6 := ⟨by decide, fun _ _ _ _ => rfl⟩
theorem ar20 : isI 148 20 6 := ⟨by decide, fun _ _ _ _ => rfl⟩
theorem ar22 : isI 148 22 301 := ⟨by decide, fun _ _ _ _ => rfl⟩
theorem ar23 : isI 148 23 60 := ⟨by decide, fun _ _ _ _ => rfl⟩
theorem ar25 : isI 148 25 802 := ⟨by decide, fun _ _ _ _ => rfl⟩
theorem ar26 : isI 148 26 7218 := ⟨by decide, fun _ _ _ _ => rfl⟩
theorem ar27 : isI 148 27 400 := ⟨by decide, fun _ _ _ _ => rfl⟩
theorem ar28 : isI 148 28 2 := ⟨by decide, fun _ _ _ _ => rfl⟩
theorem ar149 : isI 174 149 113 := ⟨by decide, fun _ _ _ _ => rfl⟩
theorem ar150 : isI 174 150 452 := ⟨by decide, fun _ _ _ _ => rfl⟩
theorem ar151 : isI 174 151 100 := ⟨by decide, fun _ _ _ _ => rfl⟩
theorem ar152 : isI 174 152 60 := ⟨by decide, fun _ _ _ _ => rfl⟩
theorem ar153 : isZ 174 153 6 := ⟨by decide, fun _ _ _ _ => rfl⟩
theorem ar154 : isI 174 154 6 := ⟨by decide, fun _ _ _ _ => rfl⟩
theorem ar155 : isZ 174 155 6 := ⟨by decide, fun _ _ _ _ => rfl⟩
theorem ar156 : isZ 174 156 36 := ⟨by decide, fun _ _ _ _ => rfl⟩
theorem ar157 : isZ 174 157 36 := ⟨by decide, fun _ _ _ _ => rfl⟩
theorem ar158 : isZ 174 158 1296 := ⟨by decide, fun _ _ _ _ => rfl⟩
theorem ar159 : isZ 174 159 1296 := ⟨by decide, fun _ _ _ _ => rfl⟩
theorem ar160 : isZ 174 160 3456 := ⟨by decide, fun _ _ _ _ => rfl⟩
theorem ar161 : isZ 174 161 216 := ⟨by decide, fun _ _ _ _ => rfl⟩
theorem ar162 : isZ 174 162 216 := ⟨by decide, fun _ _ _ _ => rfl⟩
theorem ar163 : isZ 174 163 216 := ⟨by decide, fun _ _ _ _ => rfl⟩
theorem ar164 : isZ 174 164 24192 := ⟨by decide, fun _ _ _ _ => rfl⟩
theorem ar165 : isI 174 165 113 := ⟨by decide, fun _ _ _ _ => rfl⟩
theorem ar166 : isI 174 166 8 := ⟨by decide, fun _ _ _ _ => rfl⟩
theorem ar167 : isI 174 167 900 := ⟨by decide, fun _ _ _ _ => rfl⟩
theorem ar168 : isJ 174 168 486 := ⟨by decide, fun _ _ _ _ => rfl⟩
theorem ar169 : isJ 174 169 9 := ⟨by decide, fun _ _ _ _ => rfl⟩
theorem ar170 : isJ 174 170 9 := ⟨by decide, fun _ _ _ _ => rfl⟩
theorem ar171 : isJ 174 171 6 := ⟨by decide, fun _ _ _ _ => rfl⟩
theorem ar172 : isI 174 172 900 := ⟨by decide, fun _ _ _ _ => rfl⟩
theorem ar173 : isJ 174 173 8109 := ⟨by decide, fun _ _ _ _ => rfl⟩
theorem ar14 : isW 148 14 5 1 := ⟨by decide, fun _ _ _ _ => rfl⟩
theorem ar15 : isW 148 15 6 6 := ⟨by decide, fun _ _ _ _ => rfl⟩
theorem ar16 : isW 148 16 6 12 := ⟨by decide, fun _ _ _ _ => rfl⟩
theorem ar17 : isW 148 17 16 18 := ⟨by decide, fun _ _ _ _ => rfl⟩
theorem ar18 : isW 148 18 2 34 := ⟨by decide, fun _ _ _ _ => rfl⟩
theorem lt6 {g : Nat} (h : g < 6) : g = 0 ∨ g = 1 ∨ g = 2 ∨ g = 3 ∨ g = 4 ∨ g = 5 := by omega
theorem oX4 {g : Nat} (h : g < 6) : isO 148 (gId g 0) 4 (fun E => fl4 E g) := by
  rcases lt6 h with rfl | rfl | rfl | rfl | rfl | rfl <;> exact ⟨by decide, fun _ _ _ _ => rfl⟩
theorem arG1 {g : Nat} (h : g < 6) : isI 148 (gId g 1) 16 := by
  rcases lt6 h with rfl | rfl | rfl | rfl | rfl | rfl <;> exact ⟨by decide, fun _ _ _ _ => rfl⟩
theorem arG2 {g : Nat} (h : g < 6) : isI 148 (gId g 2) 16 := by
  rcases lt6 h with rfl | rfl | rfl | rfl | rfl | rfl <;> exact ⟨by decide, fun _ _ _ _ => rfl⟩
theorem arG3 {g : Nat} (h : g < 6) : isI 148 (gId g 3) 80 := by
  rcases lt6 h with rfl | rfl | rfl | rfl | rfl | rfl <;> exact ⟨by decide, fun _ _ _ _ => rfl⟩
theorem arG4 {g : Nat} (h : g < 6) : isI 148 (gId g 4) 6 := by
  rcases lt6 h with rfl | rfl | rfl | rfl | rfl | rfl <;> exact ⟨by decide, fun _ _ _ _ => rfl⟩
theorem arG5 {g : Nat} (h : g < 6) : isI 148 (gId g 5) 6 := by
  rcases lt6 h with rfl | rfl | rfl | rfl | rfl | rfl <;> exact ⟨by decide, fun _ _ _ _ => rfl⟩
theorem lt36 {w : Nat} (h : w < 36) : w = 0 ∨ w = 1 ∨ w = 2 ∨ w = 3 ∨ w = 4 ∨ w = 5 ∨ w = 6 ∨ w = 7 ∨ w = 8 ∨ w = 9 ∨ w = 10 ∨ w = 11 ∨ w = 12 ∨ w = 13 ∨ w = 14 ∨ w = 15 ∨ w = 16 ∨ w = 17 ∨ w = 18 ∨ w = 19 ∨ w = 20 ∨ w = 21 ∨ w = 22 ∨ w = 23 ∨ w = 24 ∨ w = 25 ∨ w = 26 ∨ w = 27 ∨ w = 28 ∨ w = 29 ∨ w = 30 ∨ w = 31 ∨ w = 32 ∨ w = 33 ∨ w = 34 ∨ w = 35 := by omega
theorem oX10 {w : Nat} (h : w < 36) : isO 148 (wId w 0) 10 (fun E => fl10 E w) := by
  rcases lt36 h with rfl | rfl | rfl | rfl | rfl | rfl | rfl | rfl | rfl | rfl | rfl | rfl | rfl | rfl | rfl | rfl | rfl | rfl | rfl | rfl | rfl | rfl | rfl | rfl | rfl | rfl | rfl | rfl | rfl | rfl | rfl | rfl | rfl | rfl | rfl | rfl <;> exact ⟨by decide, fun _ _ _ _ => rfl⟩
theorem arW1 {w : Nat} (h : w < 36) : isJ 148 (wId w 1) 6 := by
  rcases lt36 h with rfl | rfl | rfl | rfl | rfl | rfl | rfl | rfl | rfl | rfl | rfl | rfl | rfl | rfl | rfl | rfl | rfl | rfl | rfl | rfl | rfl | rfl | rfl | rfl | rfl | rfl | rfl | rfl | rfl | rfl | rfl | rfl | rfl | rfl | rfl | rfl <;> exact ⟨by decide, fun _ _ _ _ => rfl⟩
theorem lt2 {c : Nat} (h : c < 2) : c = 0 ∨ c = 1 := by omega
theorem oX1 {c : Nat} (h : c < 2) : isO 148 (cId c 0) 1 (fun E => fl1 E c) := by
  rcases lt2 h with rfl | rfl <;> exact ⟨by decide, fun _ _ _ _ => rfl⟩
theorem arC1 {c : Nat} (h : c < 2) : isI 148 (cId c 1) 8 := by
  rcases lt2 h with rfl | rfl <;> exact ⟨by decide, fun _ _ _ _ => rfl⟩
theorem arC2 {c : Nat} (h : c < 2) : isI 148 (cId c 2) 81 := by
  rcases lt2 h with rfl | rfl <;> exact ⟨by decide, fun _ _ _ _ => rfl⟩
theorem arC3 {c : Nat} (h : c < 2) : isI 148 (cId c 3) (tLen c) := by
  rcases lt2 h with rfl | rfl <;> exact ⟨by decide, fun _ _ _ _ => rfl⟩
theorem arC4 {c : Nat} (h : c < 2) : isI 148 (cId c 4) 9 := by
  rcases lt2 h with rfl | rfl <;> exact ⟨by decide, fun _ _ _ _ => rfl⟩
/-! ===== THE WORLD, AND THE JUDGEMENT ===== -/
def lim (j : Nat) : Int32 := if j = 0 then 1 else if j = 1 then 6 else if j = 2 then 36 else 216
def nestM : List (String × Nat × MethodName) := [(RX11, 9, yX8_init), (RX11, 18, yX7_init), (RX7, 17, yX4_init), (RX5, 21, yX4_init), (RX11, 32, yX9_init), (RX3, 11, yX10_init), (RX11, 46, yX6_init), (RX11, 60, yX0_init), (RX11, 67, yX4_init), (RX4, 40, yX11_bit), (RX9, 96, yX11_isLetter), (RX9, 103, yX11_bit), (RX3, 106, yX11_isLetter), (RX7, 84, yX11_bit), (RX6, 31, yX11_isLetter), (RX1, 67, yX11_isLetter), (RX2, 90, yX11_isLetter), (RX0, 72, yX11_bit)]
/-- the links between nest mates: they ride with the state -/
def NZ (U : State) : Prop := (∀ q ∈ nestM, va_Nw (.methodLinkNest q.1 q.2.1 q.2.2 RX11) U) ∧ va_Nw (.fieldLinkNest RX10 43 RX11 "WORD_LIMITS" "[I" RX11) U
theorem NZ.warm {s U : State} (hW : s.WarmedH U.vm) (h : NZ s) : NZ U := ⟨fun q hq => va_Nw.warmM hW (h.1 q hq), va_Nw.warmF hW h.2⟩
theorem NZ.same {u U : State} (hvm : u.vm = U.vm) (h : NZ u) : NZ U := ⟨fun q hq => va_Nw.same rfl hvm (h.1 q hq), va_Nw.same rfl hvm h.2⟩
def ZT (E : GE) (U : State) (H : Heap) : Prop := va_Z RX11 "WORD_LIMITS" "[I" (.ref E.2.2.2.1) (AE E) U H ∧ va_T .int E.2.2.2.1 4 (fun j => .int (lim j)) (AE E) U H
theorem ZT.moved {E : GE} {u U : State} {H : Heap} (hvm : u.vm.Alike U.vm) (h : ZT E u H) : ZT E U H := ⟨va_Z.moved hvm h.1, va_T.moved hvm h.2⟩
theorem ZT.kept {E : GE} {U : State} {H H1 : Heap} (h : ZT E U H) (hq : ∀ a : Nat, a < H.size → ¬ AE E a → H1[a]? = H[a]?) : ZT E U H1 := ⟨va_Z.kept h.1 hq, va_T.kept h.2 hq⟩
def WK (E : GE) (s : State) (H : Heap) (locs : List Loc) (σ : PH) : Prop := va_P E.1 vwCl (wsE E σ) H ∧ va_D (AE E) (wsE E σ) ∧ va_S (AE E) s.heap H locs ∧ ∀ a b : Nat, σ.2.2 a b < 6
def WS (E : GE) (σ : PH) (U : State) : Prop := va_P E.1 vwCl (wsE E σ) U.heap ∧ va_D (AE E) (wsE E σ) ∧ (∀ a b : Nat, σ.2.2 a b < 6) ∧ va_K E.1 vwCl (tyE E) U ∧ ZT E U U.heap ∧ NZ U
abbrev CT : Type := Program × Launch × Env × Room × State × MethodId × Array Value × List Frame × Method × Code × Nat × Nat × Nat × GE
def RF {α : Type} (Γ : CT) (Q : α → PH → State → Prop) (x : Option (α × PH)) (σ : PH) (pc : Nat) (lv : List (Nat × Value)) (st : List Value) : Prop :=
  match Γ with
  | (p, l, e, R, s, m, args, below, meth, c, nL, cs, ss, E) => ∀ (r : α) (σ' : PH), x = some (r, σ') → ∀ (H : Heap) (locs : List Loc) (ls : Array Slot), WK E s H locs σ → lv_has ls nL lv → W p l e R s m args below meth c H locs cs ss (Q r σ') (F0 m pc ls st)
def gE (Γ : CT) : GE := Γ.2.2.2.2.2.2.2.2.2.2.2.2.2
def gL (Γ : CT) : Launch := Γ.2.1
def CX (Γ : CT) (cc : ByteArray) (own : String) (rm : Room) (ret : Option FieldType) (nL B : Nat) : Prop :=
  match Γ with
  | (p, _, _, R, s, m, args, _, meth, c, nL', cs, ss, E) => p.tables.exec = Jvm.exec ∧ c.code = cc ∧ c.maxLocals = nL ∧ s.vm.findClass own = some m.cls ∧ (∀ w ∈ wsL_law, w.before args s = true) ∧ va_K E.1 vwCl (tyE E) s ∧ (ZT E s s.heap ∧ NZ s) ∧ meth.sig.returnType = ret ∧ meth.locks = false ∧ R = rm ∧ nL' = nL ∧ B ≤ E.2.2.2.2.1 ∧ cs ≤ R.cells ∧ ss ≤ R.slots
def lt {α β : Type} (a : α) (k : α → β) : β := k a
def bd {α β : Type} (x : Option (α × PH)) (k : α → PH → Option β) : Option β := match x with
  | none => none
  | some a => k a.1 a.2
def inb (i : Int32) (n : Nat) : Prop := 0 ≤ i ∧ i.toNatClampNeg < n
def ra {α β : Type} (n : Nat) (i : Int32) (f : Nat → α) (k : α → Option β) : Option β := if 0 ≤ i ∧ i.toNatClampNeg < n then k (f i.toNatClampNeg) else none
def wa {β : Type} (n : Nat) (i : Int32) (k : Option β) : Option β := if 0 ≤ i ∧ i.toNatClampNeg < n then k else none
def ck {β : Type} (b : Bool) (k : Option β) : Option β := if b = true then k else none
def jn {α β : Type} (rest : α) (body : α → β) : β := body rest
def nz (v : Int32) : Int32 := vp_nar .boolean v
theorem inb_vp {i : Int32} {n : Nat} (h : 0 ≤ i ∧ i.toNatClampNeg < n) : vp_in i n := by
  intro q
  rcases q with q | q
  · have h1 := h.1
    rw [Int32.le_iff_toInt_le] at h1
    rw [Int32.lt_iff_toInt_lt] at q
    omega
  · exact Nat.not_le.mpr h.2 q
theorem bd_some {α β : Type} {x : Option (α × PH)} {k : α → PH → Option β} {z : β} (h : bd x k = some z) : ∃ (a : α) (σ : PH), x = some (a, σ) ∧ k a σ = some z := by
  cases x with
  | none => cases h
  | some a => exact ⟨a.1, a.2, rfl, h⟩
theorem ra_some {α β : Type} {n : Nat} {i : Int32} {f : Nat → α} {k : α → Option β} {z : β} (h : ra n i f k = some z) : (0 ≤ i ∧ i.toNatClampNeg < n) ∧ k (f i.toNatClampNeg) = some z := by
  unfold ra at h
  by_cases hc : 0 ≤ i ∧ i.toNatClampNeg < n
  · rw [if_pos hc] at h; exact ⟨hc, h⟩
  · rw [if_neg hc] at h; cases h
theorem wa_some {β : Type} {n : Nat} {i : Int32} {k : Option β} {z : β} (h : wa n i k = some z) : (0 ≤ i ∧ i.toNatClampNeg < n) ∧ k = some z := by
  unfold wa at h
  by_cases hc : 0 ≤ i ∧ i.toNatClampNeg < n
  · rw [if_pos hc] at h; exact ⟨hc, h⟩
  · rw [if_neg hc] at h; cases h
theorem wsE_at {E : GE} {σ : PH} {q : Nat} (h : q < E.2.2.2.2.1) : (wsE E σ)[q]? = some (E.2.1 q, ent E σ q) := by
  simp [wsE, List.getElem?_map, List.getElem?_range h]
theorem pset6 {f : Nat → Nat → Nat} {q k v : Nat} (h6 : v < 6) (h : ∀ a b, f a b < 6) : ∀ a b, pset f q k v a b < 6 := by
  intro a b
  by_cases ha : a = q
  · subst ha
    rw [pset_q]
    by_cases hb : b = k
    · simp [hb, h6]
    · simp [hb, h]
  · rw [pset_o _ _ _ ha]
    exact h a b
theorem ent_si {E : GE} {σ : PH} {q k : Nat} {v : Int32} : ent E (si σ q k v) q = entA q E (fun b => if b = k then v else σ.1 q b) (σ.2.1 q) (σ.2.2 q) := by
  show entA q E (pset σ.1 q k v q) (σ.2.1 q) (σ.2.2 q) = _
  rw [pset_q]
theorem ent_sl {E : GE} {σ : PH} {q k : Nat} {v : Int64} : ent E (sl σ q k v) q = entA q E (σ.1 q) (fun b => if b = k then v else σ.2.1 q b) (σ.2.2 q) := by
  show entA q E (σ.1 q) (pset σ.2.1 q k v q) (σ.2.2 q) = _
  rw [pset_q]
theorem ent_sg {E : GE} {σ : PH} {q k v : Nat} : ent E (sg σ q k v) q = entA q E (σ.1 q) (σ.2.1 q) (fun b => if b = k then v else σ.2.2 q b) := by
  show entA q E (σ.1 q) (σ.2.1 q) (pset σ.2.2 q k v q) = _
  rw [pset_q]
theorem wsO {E : GE} {σ : PH} {B q ci : Nat} {F : GE → (Nat → Int32) → (Nat → Int64) → (Nat → Nat) → List Value} (h : isO B q ci F) (hB : B ≤ E.2.2.2.2.1) : (wsE E σ)[q]? = some (E.2.1 q, .inr (ci, F E (σ.1 q) (σ.2.1 q) (σ.2.2 q))) := by
  rw [wsE_at (Nat.lt_of_lt_of_le h.1 hB)]; unfold ent; rw [h.2]
theorem wsI {E : GE} {σ : PH} {B q n : Nat} (h : isI B q n) (hB : B ≤ E.2.2.2.2.1) : (wsE E σ)[q]? = some (E.2.1 q, .inl (E.2.2.1 0, n, .inl (σ.1 q))) := by
  rw [wsE_at (Nat.lt_of_lt_of_le h.1 hB)]; unfold ent; rw [h.2]
theorem wsZ {E : GE} {σ : PH} {B q n : Nat} (h : isZ B q n) (hB : B ≤ E.2.2.2.2.1) : (wsE E σ)[q]? = some (E.2.1 q, .inl (E.2.2.1 1, n, .inl (σ.1 q))) := by
  rw [wsE_at (Nat.lt_of_lt_of_le h.1 hB)]; unfold ent; rw [h.2]
theorem wsJ {E : GE} {σ : PH} {B q n : Nat} (h : isJ B q n) (hB : B ≤ E.2.2.2.2.1) : (wsE E σ)[q]? = some (E.2.1 q, .inl (E.2.2.1 2, n, .inr (.inl (σ.2.1 q)))) := by
  rw [wsE_at (Nat.lt_of_lt_of_le h.1 hB)]; unfold ent; rw [h.2]
theorem wsW {E : GE} {σ : PH} {B q n b : Nat} (h : isW B q n b) (hB : B ≤ E.2.2.2.2.1) : (wsE E σ)[q]? = some (E.2.1 q, .inl (E.2.2.1 3, n, .inr (.inr (.inr (.inr fun j => some (E.2.1 (wId (b + j) 0))))))) := by
  rw [wsE_at (Nat.lt_of_lt_of_le h.1 hB)]; unfold ent; rw [h.2]
theorem wsL {E : GE} {σ : PH} {q : Nat} {xa : GE → (Nat → Int32) → (Nat → Int64) → (Nat → Nat) → ClassId × vp_A} (h : q < E.2.2.2.2.1) (he : ∀ E i l g, entA q E i l g = .inl (xa E i l g)) : (wsE E σ)[q]? = some (E.2.1 q, .inl (xa E (σ.1 q) (σ.2.1 q) (σ.2.2 q))) := by
  rw [wsE_at h]; unfold ent; rw [he]
theorem wsE_upd {E : GE} {σ σ' : PH} {q : Nat} (h1 : ∀ a, a ≠ q → σ'.1 a = σ.1 a) (h2 : ∀ a, a ≠ q → σ'.2.1 a = σ.2.1 a) (h3 : ∀ a, a ≠ q → σ'.2.2 a = σ.2.2 a) : (wsE E σ).set q (E.2.1 q, ent E σ' q) = wsE E σ' := by
  apply List.ext_getElem?
  intro j
  by_cases hj : q = j
  · subst hj
    by_cases hl : q < E.2.2.2.2.1
    · rw [wsE_at hl, List.getElem?_set_self (by simp [wsE]; exact hl)]
    · rw [List.getElem?_eq_none (by simp [wsE]; omega), List.getElem?_eq_none (by simp [wsE]; omega)]
  · rw [List.getElem?_set_ne hj]
    by_cases hl : j < E.2.2.2.2.1
    · rw [wsE_at hl, wsE_at hl]
      unfold ent
      rw [h1 j (Ne.symm hj), h2 j (Ne.symm hj), h3 j (Ne.symm hj)]
    · rw [List.getElem?_eq_none (by simp [wsE]; omega), List.getElem?_eq_none (by simp [wsE]; omega)]
theorem WS.ofK {E : GE} {s t : State} {H : Heap} {locs : List Loc} {σ : PH} (w : WK E s H locs σ) (hK : va_K E.1 vwCl (tyE E) s) (hZ : ZT E s s.heap ∧ NZ s) (ht : t.heap = H) (hW : s.WarmedH t.vm) : WS E σ t := by
  refine ⟨by rw [ht]; exact w.1, w.2.1, w.2.2.2, va_K.moved hW.alike hK, ?_, hZ.2.warm hW⟩
  rw [ht]
  exact (hZ.1.moved hW.alike).kept (fun a h1 h2 => w.2.2.1.2.1 a h1 h2)
/-- a class's rows -/
def CF (ci : Nat) (C : String) (T : u_T) (N : Nat) (ty : Nat → FieldType) : Prop := vwCl[ci]? = some (C, T, N) ∧ (∀ w ∈ u_ws C T N, w ∈ wsL_law) ∧ (∀ k, k < N → parseFieldDescriptor (T k).2.2.1 = some (ty k)) ∧ ∀ a, a < N → ∀ b, b < N → a ≠ b → (T a).2.1 ≠ (T b).2.1
def FL (own : String) (idx : Nat) (T : u_T) (k : Nat) : Prop := Cond.fieldLink own idx (T k).1 (T k).2.1 (T k).2.2.1 ∈ wsL_law
/-- a method's rows: its code, its class, how many arguments -/
def MF (y : MethodName) (cd : ByteArray) (ml : Nat) (ret : Option FieldType) (n : Nat) : Prop := Cond.code y cd ml ret ∈ wsL_law ∧ Cond.initialized y.cls ∈ wsL_law ∧ (y.cls ≠ "java/lang/invoke/MethodHandle" ∧ y.cls ≠ "java/lang/invoke/VarHandle" ∧ (parseMethodDescriptor y.desc).map (fun d => d.parameters.length) = some n)
def MV (y : MethodName) : Prop := Cond.instanceMethod y ∈ wsL_law ∧ Cond.selects y.cls y y ∈ wsL_law
def MS (y : MethodName) : Prop := Cond.static y ∈ wsL_law
def ML (own : String) (idx : Nat) (y : MethodName) : Prop := Cond.methodLink own idx y ∈ wsL_law
set_option maxRecDepth 20000 in
theorem wsL_good : wsL_law.all goodWord = true := by decide +kernel
theorem wsB_good {y : MethodName} {cd : ByteArray} {ml : Nat} {ret : Option FieldType} (h : Cond.code y cd ml ret ∈ wsL_law) : GoodIn wsL_law (Cond.code y cd ml ret :: wsL_law) := by
  intro w hw
  have hm : w ∈ wsL_law := (List.mem_cons.mp hw).elim (fun e => e ▸ h) id
  exact ⟨hm, good_of_word (List.all_eq_true.mp wsL_good w hm)⟩
theorem WS.blind {E : GE} {σ : PH} {av : List Value} : FrameBlind (va_Pc av (WS E σ)) := by
  intro a U g mk q
  obtain ⟨q0, q1, q2, q3, q4, q5, q6⟩ := q
  exact ⟨q0, q1, q2, q3, va_K.moved (u := U) (U := U.calling g mk a) (Vm.Alike.refl U.vm) q4, ZT.moved (u := U) (U := U.calling g mk a) (Vm.Alike.refl U.vm) q5, NZ.same (u := U) (U := U.calling g mk a) rfl q6⟩
abbrev wsOf (y : MethodName) (cd : ByteArray) (ml : Nat) (ret : Option FieldType) : List Cond := Cond.code y cd ml ret :: wsL_law
abbrev rmOf (f n : Nat) : Room := { frames := f, cells := 0, slots := 0, locals := n }
/-! contracts: what a method comes to, if its function says so -/
def Cti (B : Nat) (l : Launch) (y : MethodName) (cd : ByteArray) (ml : Nat) (ret : Option FieldType) (rm : Room) (av : GE → List Value) (σ : PH) (x : Option (Int32 × PH)) : Prop := ∀ (E : GE) (r : Int32) (σ' : PH), B ≤ E.2.2.2.2.1 → x = some (r, σ') → Met l y (wsOf y cd ml ret) rm (va_Pc (av E) (WS E σ)) (va_Qi (fun a u => a = r ∧ u = σ') (WS E) (AE E)) 0 0 (AE E)
def Qi (Γ : CT) (r : Int32) (σ' : PH) : State → Prop := match Γ with
  | (_, _, _, _, s, _, args, below, _, _, _, cs, ss, E) => MQ below (va_Qi (fun a u => a = r ∧ u = σ') (WS E) (AE E)) args s cs ss (AE E)
def Ctl (B : Nat) (l : Launch) (y : MethodName) (cd : ByteArray) (ml : Nat) (ret : Option FieldType) (rm : Room) (av : GE → List Value) (σ : PH) (x : Option (Int64 × PH)) : Prop := ∀ (E : GE) (r : Int64) (σ' : PH), B ≤ E.2.2.2.2.1 → x = some (r, σ') → Met l y (wsOf y cd ml ret) rm (va_Pc (av E) (WS E σ)) (va_Ql (fun a u => a = r ∧ u = σ') (WS E) (AE E)) 0 0 (AE E)
def Ql (Γ : CT) (r : Int64) (σ' : PH) : State → Prop := match Γ with
  | (_, _, _, _, s, _, args, below, _, _, _, cs, ss, E) => MQ below (va_Ql (fun a u => a = r ∧ u = σ') (WS E) (AE E)) args s cs ss (AE E)
def Ctv (B : Nat) (l : Launch) (y : MethodName) (cd : ByteArray) (ml : Nat) (ret : Option FieldType) (rm : Room) (av : GE → List Value) (σ : PH) (x : Option (Unit × PH)) : Prop := ∀ (E : GE) (r : Unit) (σ' : PH), B ≤ E.2.2.2.2.1 → x = some (r, σ') → Met l y (wsOf y cd ml ret) rm (va_Pc (av E) (WS E σ)) (va_Qv (fun u => u = σ') (WS E) (AE E)) 0 0 (AE E)
def Qv (Γ : CT) (r : Unit) (σ' : PH) : State → Prop := match Γ with
  | (_, _, _, _, s, _, args, below, _, _, _, cs, ss, E) => MQ below (va_Qv (fun u => u = σ') (WS E) (AE E)) args s cs ss (AE E)
def Ctw (B : Nat) (l : Launch) (y : MethodName) (cd : ByteArray) (ml : Nat) (ret : Option FieldType) (rm : Room) (av : GE → List Value) (σ : PH) (x : Option (Nat × PH)) : Prop := ∀ (E : GE) (r : Nat) (σ' : PH), B ≤ E.2.2.2.2.1 → x = some (r, σ') → Met l y (wsOf y cd ml ret) rm (va_Pc (av E) (WS E σ)) (va_Qr (fun u => u = σ' ∧ r < 36) (fun u a t => a = E.2.1 (wId r 0) ∧ WS E u t) (AE E)) 0 0 (AE E)
def Qw (Γ : CT) (r : Nat) (σ' : PH) : State → Prop := match Γ with
  | (_, _, _, _, s, _, args, below, _, _, _, cs, ss, E) => MQ below (va_Qr (fun u => u = σ' ∧ r < 36) (fun u a t => a = E.2.1 (wId r 0) ∧ WS E u t) (AE E)) args s cs ss (AE E)
def Ctg (B : Nat) (l : Launch) (y : MethodName) (cd : ByteArray) (ml : Nat) (ret : Option FieldType) (rm : Room) (av : GE → List Value) (σ : PH) (x : Option (Nat × PH)) : Prop := ∀ (E : GE) (r : Nat) (σ' : PH), B ≤ E.2.2.2.2.1 → x = some (r, σ') → Met l y (wsOf y cd ml ret) rm (va_Pc (av E) (WS E σ)) (va_Qr (fun u => u = σ' ∧ r < 6) (fun u a t => a = E.2.1 (gId r 0) ∧ WS E u t) (AE E)) 0 0 (AE E)
def Qg (Γ : CT) (r : Nat) (σ' : PH) : State → Prop := match Γ with
  | (_, _, _, _, s, _, args, below, _, _, _, cs, ss, E) => MQ below (va_Qr (fun u => u = σ' ∧ r < 6) (fun u a t => a = E.2.1 (gId r 0) ∧ WS E u t) (AE E)) args s cs ss (AE E)
theorem Cti.of {B : Nat} {l : Launch} {y : MethodName} {cd : ByteArray} {ml : Nat} {ret : Option FieldType} {f n : Nat} {av : GE → List Value} {σ : PH} {x : Option (Int32 × PH)} (hy : plainName y.cls = true) {own : String} (ho : y.cls = own) {lv : GE → List (Nat × Value)} (hl : ∀ E, (lg_sl (av E)).length ≤ ml) (hlv : ∀ E, lv_args 0 (av E) = lv E)
    (k : ∀ Γ : CT, gL Γ = l → (∀ a b : Nat, σ.2.2 a b < 6) → CX Γ cd own (rmOf f n) ret ml B → RF Γ (Qi Γ) x σ 0 (lv (gE Γ)) []) : Cti B l y cd ml ret (rmOf f n) av σ x := by
  intro E r σ' hB hx
  refine Met.ofW (cc := cd) (maxL := ml) (ret := ret) hy rfl ?_
  intro p e s m args below meth c s₁ Bd hml hv
  obtain ⟨rfl, hP, hD, h6, hK, hZ⟩ := hv
  have hts := atoms_spec (ws := wsOf y cd ml ret) Bd.pre
  have hown : s.vm.findClass own = some m.cls := by rw [← ho]; exact findClass_of_methodNamed Bd.named
  have K := k (p, l, e, rmOf f n, s, m, (av E).toArray, below, meth, c, ml, 0, 0, E) rfl h6 ⟨Bd.exec, Bd.bytes, hml, hown, fun w hw => hts w (List.mem_cons_of_mem _ hw), hK, hZ, Bd.returns, Bd.notSynchronized, rfl, rfl, hB, Nat.zero_le _, Nat.zero_le _⟩
  have hl0 := lv_entry (av E) (n := ml) (hl E)
  rw [hlv E] at hl0
  rw [lg_entry_eq]
  exact K r σ' hx s.heap [] _ ⟨hP, hD, va_S.rf, h6⟩ hl0
theorem Ctl.of {B : Nat} {l : Launch} {y : MethodName} {cd : ByteArray} {ml : Nat} {ret : Option FieldType} {f n : Nat} {av : GE → List Value} {σ : PH} {x : Option (Int64 × PH)} (hy : plainName y.cls = true) {own : String} (ho : y.cls = own) {lv : GE → List (Nat × Value)} (hl : ∀ E, (lg_sl (av E)).length ≤ ml) (hlv : ∀ E, lv_args 0 (av E) = lv E)
    (k : ∀ Γ : CT, gL Γ = l → (∀ a b : Nat, σ.2.2 a b < 6) → CX Γ cd own (rmOf f n) ret ml B → RF Γ (Ql Γ) x σ 0 (lv (gE Γ)) []) : Ctl B l y cd ml ret (rmOf f n) av σ x := by
  intro E r σ' hB hx
  refine Met.ofW (cc := cd) (maxL := ml) (ret := ret) hy rfl ?_
  intro p e s m args below meth c s₁ Bd hml hv
  obtain ⟨rfl, hP, hD, h6, hK, hZ⟩ := hv
  have hts := atoms_spec (ws := wsOf y cd ml ret) Bd.pre
  have hown : s.vm.findClass own = some m.cls := by rw [← ho]; exact findClass_of_methodNamed Bd.named
  have K := k (p, l, e, rmOf f n, s, m, (av E).toArray, below, meth, c, ml, 0, 0, E) rfl h6 ⟨Bd.exec, Bd.bytes, hml, hown, fun w hw => hts w (List.mem_cons_of_mem _ hw), hK, hZ, Bd.returns, Bd.notSynchronized, rfl, rfl, hB, Nat.zero_le _, Nat.zero_le _⟩
  have hl0 := lv_entry (av E) (n := ml) (hl E)
  rw [hlv E] at hl0
  rw [lg_entry_eq]
  exact K r σ' hx s.heap [] _ ⟨hP, hD, va_S.rf, h6⟩ hl0
theorem Ctv.of {B : Nat} {l : Launch} {y : MethodName} {cd : ByteArray} {ml : Nat} {ret : Option FieldType} {f n : Nat} {av : GE → List Value} {σ : PH} {x : Option (Unit × PH)} (hy : plainName y.cls = true) {own : String} (ho : y.cls = own) {lv : GE → List (Nat × Value)} (hl : ∀ E, (lg_sl (av E)).length ≤ ml) (hlv : ∀ E, lv_args 0 (av E) = lv E)
    (k : ∀ Γ : CT, gL Γ = l → (∀ a b : Nat, σ.2.2 a b < 6) → CX Γ cd own (rmOf f n) ret ml B → RF Γ (Qv Γ) x σ 0 (lv (gE Γ)) []) : Ctv B l y cd ml ret (rmOf f n) av σ x := by
  intro E r σ' hB hx
  refine Met.ofW (cc := cd) (maxL := ml) (ret := ret) hy rfl ?_
  intro p e s m args below meth c s₁ Bd hml hv
  obtain ⟨rfl, hP, hD, h6, hK, hZ⟩ := hv
  have hts := atoms_spec (ws := wsOf y cd ml ret) Bd.pre
  have hown : s.vm.findClass own = some m.cls := by rw [← ho]; exact findClass_of_methodNamed Bd.named
  have K := k (p, l, e, rmOf f n, s, m, (av E).toArray, below, meth, c, ml, 0, 0, E) rfl h6 ⟨Bd.exec, Bd.bytes, hml, hown, fun w hw => hts w (List.mem_cons_of_mem _ hw), hK, hZ, Bd.returns, Bd.notSynchronized, rfl, rfl, hB, Nat.zero_le _, Nat.zero_le _⟩
  have hl0 := lv_entry (av E) (n := ml) (hl E)
  rw [hlv E] at hl0
  rw [lg_entry_eq]
  exact K r σ' hx s.heap [] _ ⟨hP, hD, va_S.rf, h6⟩ hl0
theorem Ctw.of {B : Nat} {l : Launch} {y : MethodName} {cd : ByteArray} {ml : Nat} {ret : Option FieldType} {f n : Nat} {av : GE → List Value} {σ : PH} {x : Option (Nat × PH)} (hy : plainName y.cls = true) {own : String} (ho : y.cls = own) {lv : GE → List (Nat × Value)} (hl : ∀ E, (lg_sl (av E)).length ≤ ml) (hlv : ∀ E, lv_args 0 (av E) = lv E)
    (k : ∀ Γ : CT, gL Γ = l → (∀ a b : Nat, σ.2.2 a b < 6) → CX Γ cd own (rmOf f n) ret ml B → RF Γ (Qw Γ) x σ 0 (lv (gE Γ)) []) : Ctw B l y cd ml ret (rmOf f n) av σ x := by
  intro E r σ' hB hx
  refine Met.ofW (cc := cd) (maxL := ml) (ret := ret) hy rfl ?_
  intro p e s m args below meth c s₁ Bd hml hv
  obtain ⟨rfl, hP, hD, h6, hK, hZ⟩ := hv
  have hts := atoms_spec (ws := wsOf y cd ml ret) Bd.pre
  have hown : s.vm.findClass own = some m.cls := by rw [← ho]; exact findClass_of_methodNamed Bd.named
  have K := k (p, l, e, rmOf f n, s, m, (av E).toArray, below, meth, c, ml, 0, 0, E) rfl h6 ⟨Bd.exec, Bd.bytes, hml, hown, fun w hw => hts w (List.mem_cons_of_mem _ hw), hK, hZ, Bd.returns, Bd.notSynchronized, rfl, rfl, hB, Nat.zero_le _, Nat.zero_le _⟩
  have hl0 := lv_entry (av E) (n := ml) (hl E)
  rw [hlv E] at hl0
  rw [lg_entry_eq]
  exact K r σ' hx s.heap [] _ ⟨hP, hD, va_S.rf, h6⟩ hl0
theorem Ctg.of {B : Nat} {l : Launch} {y : MethodName} {cd : ByteArray} {ml : Nat} {ret : Option FieldType} {f n : Nat} {av : GE → List Value} {σ : PH} {x : Option (Nat × PH)} (hy : plainName y.cls = true) {own : String} (ho : y.cls = own) {lv : GE → List (Nat × Value)} (hl : ∀ E, (lg_sl (av E)).length ≤ ml) (hlv : ∀ E, lv_args 0 (av E) = lv E)
    (k : ∀ Γ : CT, gL Γ = l → (∀ a b : Nat, σ.2.2 a b < 6) → CX Γ cd own (rmOf f n) ret ml B → RF Γ (Qg Γ) x σ 0 (lv (gE Γ)) []) : Ctg B l y cd ml ret (rmOf f n) av σ x := by
  intro E r σ' hB hx
  refine Met.ofW (cc := cd) (maxL := ml) (ret := ret) hy rfl ?_
  intro p e s m args below meth c s₁ Bd hml hv
  obtain ⟨rfl, hP, hD, h6, hK, hZ⟩ := hv
  have hts := atoms_spec (ws := wsOf y cd ml ret) Bd.pre
  have hown : s.vm.findClass own = some m.cls := by rw [← ho]; exact findClass_of_methodNamed Bd.named
  have K := k (p, l, e, rmOf f n, s, m, (av E).toArray, below, meth, c, ml, 0, 0, E) rfl h6 ⟨Bd.exec, Bd.bytes, hml, hown, fun w hw => hts w (List.mem_cons_of_mem _ hw), hK, hZ, Bd.returns, Bd.notSynchronized, rfl, rfl, hB, Nat.zero_le _, Nat.zero_le _⟩
  have hl0 := lv_entry (av E) (n := ml) (hl E)
  rw [hlv E] at hl0
  rw [lg_entry_eq]
  exact K r σ' hx s.heap [] _ ⟨hP, hD, va_S.rf, h6⟩ hl0
section RFS
variable {α : Type} {Γ : CT} {Q : α → PH → State → Prop} {x : Option (α × PH)} {σ : PH} {pc : Nat} {lv : List (Nat × Value)} {st : List Value} {cc : ByteArray} {own : String} {rm : Room} {ret : Option FieldType} {nL B : Nat}
theorem RF.none : RF Γ Q (none : Option (α × PH)) σ pc lv st := by
  obtain ⟨p, l, e, R, s, m, args, below, meth, c, nL', cs, ss, E⟩ := Γ
  intro r σ' h
  cases h
theorem rf_iconst (C : CX Γ cc own rm ret nL B) {n : Int} {v : Int32} (d : decode cc pc = .ok (.iconst n, 1)) (hv : Int32.ofInt n = v) (k : RF Γ Q x σ (pc + 1) lv (.int v :: st)) : RF Γ Q x σ pc lv (st) := by
  obtain ⟨p, l, e, R, s, m, args, below, meth, c, nL', cs, ss, E⟩ := Γ
  obtain ⟨hx, hb, hml, hown, hts, hK, hZ, hr, hlk, rfl, rfl, hB, hcs⟩ := C
  exact fun r σ' h H locs ls w hl => lv_iconst hx hb d hv (k r σ' h H locs ls w hl)
theorem rf_bipush (C : CX Γ cc own rm ret nL B) {n : Int} {v : Int32} (d : decode cc pc = .ok (.bipush n, 2)) (hv : (Int8.ofInt n).toInt32 = v) (k : RF Γ Q x σ (pc + 2) lv (.int v :: st)) : RF Γ Q x σ pc lv (st) := by
  obtain ⟨p, l, e, R, s, m, args, below, meth, c, nL', cs, ss, E⟩ := Γ
  obtain ⟨hx, hb, hml, hown, hts, hK, hZ, hr, hlk, rfl, rfl, hB, hcs⟩ := C
  exact fun r σ' h H locs ls w hl => lv_bipush hx hb d hv (k r σ' h H locs ls w hl)
theorem rf_sipush (C : CX Γ cc own rm ret nL B) {n : Int} {v : Int32} (d : decode cc pc = .ok (.sipush n, 3)) (hv : (Int16.ofInt n).toInt32 = v) (k : RF Γ Q x σ (pc + 3) lv (.int v :: st)) : RF Γ Q x σ pc lv (st) := by
  obtain ⟨p, l, e, R, s, m, args, below, meth, c, nL', cs, ss, E⟩ := Γ
  obtain ⟨hx, hb, hml, hown, hts, hK, hZ, hr, hlk, rfl, rfl, hB, hcs⟩ := C
  exact fun r σ' h H locs ls w hl => lv_sipush hx hb d hv (k r σ' h H locs ls w hl)
theorem rf_lconst (C : CX Γ cc own rm ret nL B) {n : Fin 2} {v : Int64} (d : decode cc pc = .ok (.lconst n, 1)) (hv : Int64.ofNat (n : Nat) = v) (k : RF Γ Q x σ (pc + 1) lv (.long v :: st)) : RF Γ Q x σ pc lv (st) := by
  obtain ⟨p, l, e, R, s, m, args, below, meth, c, nL', cs, ss, E⟩ := Γ
  obtain ⟨hx, hb, hml, hown, hts, hK, hZ, hr, hlk, rfl, rfl, hB, hcs⟩ := C
  exact fun r σ' h H locs ls w hl => lv_lconst hx hb d hv (k r σ' h H locs ls w hl)
theorem rf_iload_n (C : CX Γ cc own rm ret nL B) {k0 : Fin 4} {i : Nat} {v : Int32} (d : decode cc pc = .ok (.iload_n k0, 1)) (hi : (k0 : Nat) = i) (j : Nat) (hg : lv[j]? = some (i, .int v)) (k : RF Γ Q x σ (pc + 1) lv (.int v :: st)) : RF Γ Q x σ pc lv (st) := by
  obtain ⟨p, l, e, R, s, m, args, below, meth, c, nL', cs, ss, E⟩ := Γ
  obtain ⟨hx, hb, hml, hown, hts, hK, hZ, hr, hlk, rfl, rfl, hB, hcs⟩ := C
  exact fun r σ' h H locs ls w hl => lv_iload_n hx hb d hi (lv_at hl j hg) (k r σ' h H locs ls w hl)
theorem rf_iload (C : CX Γ cc own rm ret nL B) {i : Nat} {v : Int32} (d : decode cc pc = .ok (.iload i, 2)) (j : Nat) (hg : lv[j]? = some (i, .int v)) (k : RF Γ Q x σ (pc + 2) lv (.int v :: st)) : RF Γ Q x σ pc lv (st) := by
  obtain ⟨p, l, e, R, s, m, args, below, meth, c, nL', cs, ss, E⟩ := Γ
  obtain ⟨hx, hb, hml, hown, hts, hK, hZ, hr, hlk, rfl, rfl, hB, hcs⟩ := C
  exact fun r σ' h H locs ls w hl => lv_iload hx hb d (lv_at hl j hg) (k r σ' h H locs ls w hl)
theorem rf_lload_n (C : CX Γ cc own rm ret nL B) {k0 : Fin 4} {i : Nat} {v : Int64} (d : decode cc pc = .ok (.lload_n k0, 1)) (hi : (k0 : Nat) = i) (j : Nat) (hg : lv[j]? = some (i, .long v)) (k : RF Γ Q x σ (pc + 1) lv (.long v :: st)) : RF Γ Q x σ pc lv (st) := by
  obtain ⟨p, l, e, R, s, m, args, below, meth, c, nL', cs, ss, E⟩ := Γ
  obtain ⟨hx, hb, hml, hown, hts, hK, hZ, hr, hlk, rfl, rfl, hB, hcs⟩ := C
  exact fun r σ' h H locs ls w hl => lv_lload_n hx hb d hi (lv_at hl j hg) (k r σ' h H locs ls w hl)
theorem rf_lload (C : CX Γ cc own rm ret nL B) {i : Nat} {v : Int64} (d : decode cc pc = .ok (.lload i, 2)) (j : Nat) (hg : lv[j]? = some (i, .long v)) (k : RF Γ Q x σ (pc + 2) lv (.long v :: st)) : RF Γ Q x σ pc lv (st) := by
  obtain ⟨p, l, e, R, s, m, args, below, meth, c, nL', cs, ss, E⟩ := Γ
  obtain ⟨hx, hb, hml, hown, hts, hK, hZ, hr, hlk, rfl, rfl, hB, hcs⟩ := C
  exact fun r σ' h H locs ls w hl => lv_lload hx hb d (lv_at hl j hg) (k r σ' h H locs ls w hl)
theorem rf_aload_n (C : CX Γ cc own rm ret nL B) {k0 : Fin 4} {i : Nat} {v : Nat} (d : decode cc pc = .ok (.aload_n k0, 1)) (hi : (k0 : Nat) = i) (j : Nat) (hg : lv[j]? = some (i, .ref v)) (k : RF Γ Q x σ (pc + 1) lv (.ref v :: st)) : RF Γ Q x σ pc lv (st) := by
  obtain ⟨p, l, e, R, s, m, args, below, meth, c, nL', cs, ss, E⟩ := Γ
  obtain ⟨hx, hb, hml, hown, hts, hK, hZ, hr, hlk, rfl, rfl, hB, hcs⟩ := C
  exact fun r σ' h H locs ls w hl => lv_aload_n hx hb d hi (lv_at hl j hg) (k r σ' h H locs ls w hl)
theorem rf_aload (C : CX Γ cc own rm ret nL B) {i : Nat} {v : Nat} (d : decode cc pc = .ok (.aload i, 2)) (j : Nat) (hg : lv[j]? = some (i, .ref v)) (k : RF Γ Q x σ (pc + 2) lv (.ref v :: st)) : RF Γ Q x σ pc lv (st) := by
  obtain ⟨p, l, e, R, s, m, args, below, meth, c, nL', cs, ss, E⟩ := Γ
  obtain ⟨hx, hb, hml, hown, hts, hK, hZ, hr, hlk, rfl, rfl, hB, hcs⟩ := C
  exact fun r σ' h H locs ls w hl => lv_aload hx hb d (lv_at hl j hg) (k r σ' h H locs ls w hl)
theorem rf_iadd (C : CX Γ cc own rm ret nL B) {a b : Int32} (d : decode cc pc = .ok (.iadd, 1)) (k : RF Γ Q x σ (pc + 1) lv (.int (a + b) :: st)) : RF Γ Q x σ pc lv (.int b :: .int a :: st) := by
  obtain ⟨p, l, e, R, s, m, args, below, meth, c, nL', cs, ss, E⟩ := Γ
  obtain ⟨hx, hb, hml, hown, hts, hK, hZ, hr, hlk, rfl, rfl, hB, hcs⟩ := C
  exact fun r σ' h H locs ls w hl => lv_iadd hx hb d (k r σ' h H locs ls w hl)
theorem rf_isub (C : CX Γ cc own rm ret nL B) {a b : Int32} (d : decode cc pc = .ok (.isub, 1)) (k : RF Γ Q x σ (pc + 1) lv (.int (a - b) :: st)) : RF Γ Q x σ pc lv (.int b :: .int a :: st) := by
  obtain ⟨p, l, e, R, s, m, args, below, meth, c, nL', cs, ss, E⟩ := Γ
  obtain ⟨hx, hb, hml, hown, hts, hK, hZ, hr, hlk, rfl, rfl, hB, hcs⟩ := C
  exact fun r σ' h H locs ls w hl => lv_isub hx hb d (k r σ' h H locs ls w hl)
theorem rf_imul (C : CX Γ cc own rm ret nL B) {a b : Int32} (d : decode cc pc = .ok (.imul, 1)) (k : RF Γ Q x σ (pc + 1) lv (.int (a * b) :: st)) : RF Γ Q x σ pc lv (.int b :: .int a :: st) := by
  obtain ⟨p, l, e, R, s, m, args, below, meth, c, nL', cs, ss, E⟩ := Γ
  obtain ⟨hx, hb, hml, hown, hts, hK, hZ, hr, hlk, rfl, rfl, hB, hcs⟩ := C
  exact fun r σ' h H locs ls w hl => lv_imul hx hb d (k r σ' h H locs ls w hl)
theorem rf_iand (C : CX Γ cc own rm ret nL B) {a b : Int32} (d : decode cc pc = .ok (.iand, 1)) (k : RF Γ Q x σ (pc + 1) lv (.int (a &&& b) :: st)) : RF Γ Q x σ pc lv (.int b :: .int a :: st) := by
  obtain ⟨p, l, e, R, s, m, args, below, meth, c, nL', cs, ss, E⟩ := Γ
  obtain ⟨hx, hb, hml, hown, hts, hK, hZ, hr, hlk, rfl, rfl, hB, hcs⟩ := C
  exact fun r σ' h H locs ls w hl => lv_iand hx hb d (k r σ' h H locs ls w hl)
theorem rf_ior (C : CX Γ cc own rm ret nL B) {a b : Int32} (d : decode cc pc = .ok (.ior, 1)) (k : RF Γ Q x σ (pc + 1) lv (.int (a ||| b) :: st)) : RF Γ Q x σ pc lv (.int b :: .int a :: st) := by
  obtain ⟨p, l, e, R, s, m, args, below, meth, c, nL', cs, ss, E⟩ := Γ
  obtain ⟨hx, hb, hml, hown, hts, hK, hZ, hr, hlk, rfl, rfl, hB, hcs⟩ := C
  exact fun r σ' h H locs ls w hl => lv_ior hx hb d (k r σ' h H locs ls w hl)
theorem rf_ixor (C : CX Γ cc own rm ret nL B) {a b : Int32} (d : decode cc pc = .ok (.ixor, 1)) (k : RF Γ Q x σ (pc + 1) lv (.int (a ^^^ b) :: st)) : RF Γ Q x σ pc lv (.int b :: .int a :: st) := by
  obtain ⟨p, l, e, R, s, m, args, below, meth, c, nL', cs, ss, E⟩ := Γ
  obtain ⟨hx, hb, hml, hown, hts, hK, hZ, hr, hlk, rfl, rfl, hB, hcs⟩ := C
  exact fun r σ' h H locs ls w hl => lv_ixor hx hb d (k r σ' h H locs ls w hl)
theorem rf_ladd (C : CX Γ cc own rm ret nL B) {a b : Int64} (d : decode cc pc = .ok (.ladd, 1)) (k : RF Γ Q x σ (pc + 1) lv (.long (a + b) :: st)) : RF Γ Q x σ pc lv (.long b :: .long a :: st) := by
  obtain ⟨p, l, e, R, s, m, args, below, meth, c, nL', cs, ss, E⟩ := Γ
  obtain ⟨hx, hb, hml, hown, hts, hK, hZ, hr, hlk, rfl, rfl, hB, hcs⟩ := C
  exact fun r σ' h H locs ls w hl => lv_ladd hx hb d (k r σ' h H locs ls w hl)
theorem rf_lsub (C : CX Γ cc own rm ret nL B) {a b : Int64} (d : decode cc pc = .ok (.lsub, 1)) (k : RF Γ Q x σ (pc + 1) lv (.long (a - b) :: st)) : RF Γ Q x σ pc lv (.long b :: .long a :: st) := by
  obtain ⟨p, l, e, R, s, m, args, below, meth, c, nL', cs, ss, E⟩ := Γ
  obtain ⟨hx, hb, hml, hown, hts, hK, hZ, hr, hlk, rfl, rfl, hB, hcs⟩ := C
  exact fun r σ' h H locs ls w hl => lv_lsub hx hb d (k r σ' h H locs ls w hl)
theorem rf_lmul (C : CX Γ cc own rm ret nL B) {a b : Int64} (d : decode cc pc = .ok (.lmul, 1)) (k : RF Γ Q x σ (pc + 1) lv (.long (a * b) :: st)) : RF Γ Q x σ pc lv (.long b :: .long a :: st) := by
  obtain ⟨p, l, e, R, s, m, args, below, meth, c, nL', cs, ss, E⟩ := Γ
  obtain ⟨hx, hb, hml, hown, hts, hK, hZ, hr, hlk, rfl, rfl, hB, hcs⟩ := C
  exact fun r σ' h H locs ls w hl => lv_lmul hx hb d (k r σ' h H locs ls w hl)
theorem rf_land (C : CX Γ cc own rm ret nL B) {a b : Int64} (d : decode cc pc = .ok (.land, 1)) (k : RF Γ Q x σ (pc + 1) lv (.long (a &&& b) :: st)) : RF Γ Q x σ pc lv (.long b :: .long a :: st) := by
  obtain ⟨p, l, e, R, s, m, args, below, meth, c, nL', cs, ss, E⟩ := Γ
  obtain ⟨hx, hb, hml, hown, hts, hK, hZ, hr, hlk, rfl, rfl, hB, hcs⟩ := C
  exact fun r σ' h H locs ls w hl => lv_land hx hb d (k r σ' h H locs ls w hl)
theorem rf_lor (C : CX Γ cc own rm ret nL B) {a b : Int64} (d : decode cc pc = .ok (.lor, 1)) (k : RF Γ Q x σ (pc + 1) lv (.long (a ||| b) :: st)) : RF Γ Q x σ pc lv (.long b :: .long a :: st) := by
  obtain ⟨p, l, e, R, s, m, args, below, meth, c, nL', cs, ss, E⟩ := Γ
  obtain ⟨hx, hb, hml, hown, hts, hK, hZ, hr, hlk, rfl, rfl, hB, hcs⟩ := C
  exact fun r σ' h H locs ls w hl => lv_lor hx hb d (k r σ' h H locs ls w hl)
theorem rf_lxor (C : CX Γ cc own rm ret nL B) {a b : Int64} (d : decode cc pc = .ok (.lxor, 1)) (k : RF Γ Q x σ (pc + 1) lv (.long (a ^^^ b) :: st)) : RF Γ Q x σ pc lv (.long b :: .long a :: st) := by
  obtain ⟨p, l, e, R, s, m, args, below, meth, c, nL', cs, ss, E⟩ := Γ
  obtain ⟨hx, hb, hml, hown, hts, hK, hZ, hr, hlk, rfl, rfl, hB, hcs⟩ := C
  exact fun r σ' h H locs ls w hl => lv_lxor hx hb d (k r σ' h H locs ls w hl)
theorem rf_ineg (C : CX Γ cc own rm ret nL B) {a : Int32} (d : decode cc pc = .ok (.ineg, 1)) (k : RF Γ Q x σ (pc + 1) lv (.int (-a) :: st)) : RF Γ Q x σ pc lv (.int a :: st) := by
  obtain ⟨p, l, e, R, s, m, args, below, meth, c, nL', cs, ss, E⟩ := Γ
  obtain ⟨hx, hb, hml, hown, hts, hK, hZ, hr, hlk, rfl, rfl, hB, hcs⟩ := C
  exact fun r σ' h H locs ls w hl => lv_ineg hx hb d (k r σ' h H locs ls w hl)
theorem rf_i2l (C : CX Γ cc own rm ret nL B) {a : Int32} (d : decode cc pc = .ok (.i2l, 1)) (k : RF Γ Q x σ (pc + 1) lv (.long a.toInt64 :: st)) : RF Γ Q x σ pc lv (.int a :: st) := by
  obtain ⟨p, l, e, R, s, m, args, below, meth, c, nL', cs, ss, E⟩ := Γ
  obtain ⟨hx, hb, hml, hown, hts, hK, hZ, hr, hlk, rfl, rfl, hB, hcs⟩ := C
  exact fun r σ' h H locs ls w hl => lv_i2l hx hb d rfl (k r σ' h H locs ls w hl)
theorem rf_l2i (C : CX Γ cc own rm ret nL B) {a : Int64} (d : decode cc pc = .ok (.l2i, 1)) (k : RF Γ Q x σ (pc + 1) lv (.int a.toInt32 :: st)) : RF Γ Q x σ pc lv (.long a :: st) := by
  obtain ⟨p, l, e, R, s, m, args, below, meth, c, nL', cs, ss, E⟩ := Γ
  obtain ⟨hx, hb, hml, hown, hts, hK, hZ, hr, hlk, rfl, rfl, hB, hcs⟩ := C
  exact fun r σ' h H locs ls w hl => lv_l2i hx hb d rfl (k r σ' h H locs ls w hl)
theorem rf_lshl (C : CX Γ cc own rm ret nL B) {a : Int64} {b : Int32} (d : decode cc pc = .ok (.lshl, 1)) (k : RF Γ Q x σ (pc + 1) lv (.long (a <<< (b.toInt64 &&& 63)) :: st)) : RF Γ Q x σ pc lv (.int b :: .long a :: st) := by
  obtain ⟨p, l, e, R, s, m, args, below, meth, c, nL', cs, ss, E⟩ := Γ
  obtain ⟨hx, hb, hml, hown, hts, hK, hZ, hr, hlk, rfl, rfl, hB, hcs⟩ := C
  exact fun r σ' h H locs ls w hl => lv_lshl hx hb d rfl (k r σ' h H locs ls w hl)
theorem rf_lshr (C : CX Γ cc own rm ret nL B) {a : Int64} {b : Int32} (d : decode cc pc = .ok (.lshr, 1)) (k : RF Γ Q x σ (pc + 1) lv (.long (a >>> (b.toInt64 &&& 63)) :: st)) : RF Γ Q x σ pc lv (.int b :: .long a :: st) := by
  obtain ⟨p, l, e, R, s, m, args, below, meth, c, nL', cs, ss, E⟩ := Γ
  obtain ⟨hx, hb, hml, hown, hts, hK, hZ, hr, hlk, rfl, rfl, hB, hcs⟩ := C
  exact fun r σ' h H locs ls w hl => lv_lshr hx hb d rfl (k r σ' h H locs ls w hl)
theorem rf_lushr (C : CX Γ cc own rm ret nL B) {a : Int64} {b : Int32} (d : decode cc pc = .ok (.lushr, 1)) (k : RF Γ Q x σ (pc + 1) lv (.long (a.toUInt64 >>> (b.toInt64.toUInt64 &&& Int64.toUInt64 63)).toInt64 :: st)) : RF Γ Q x σ pc lv (.int b :: .long a :: st) := by
  obtain ⟨p, l, e, R, s, m, args, below, meth, c, nL', cs, ss, E⟩ := Γ
  obtain ⟨hx, hb, hml, hown, hts, hK, hZ, hr, hlk, rfl, rfl, hB, hcs⟩ := C
  exact fun r σ' h H locs ls w hl => lv_lushr hx hb d rfl (k r σ' h H locs ls w hl)
theorem rf_iushr (C : CX Γ cc own rm ret nL B) {a b : Int32} (d : decode cc pc = .ok (.iushr, 1)) (k : RF Γ Q x σ (pc + 1) lv (.int (a.toUInt32 >>> (b.toUInt32 &&& Int32.toUInt32 31)).toInt32 :: st)) : RF Γ Q x σ pc lv (.int b :: .int a :: st) := by
  obtain ⟨p, l, e, R, s, m, args, below, meth, c, nL', cs, ss, E⟩ := Γ
  obtain ⟨hx, hb, hml, hown, hts, hK, hZ, hr, hlk, rfl, rfl, hB, hcs⟩ := C
  exact fun r σ' h H locs ls w hl => lv_iushr hx hb d rfl (k r σ' h H locs ls w hl)
theorem rf_dup (C : CX Γ cc own rm ret nL B) {v : Value} (d : decode cc pc = .ok (.dup, 1)) (hv : v.category = 1) (k : RF Γ Q x σ (pc + 1) lv (v :: v :: st)) : RF Γ Q x σ pc lv (v :: st) := by
  obtain ⟨p, l, e, R, s, m, args, below, meth, c, nL', cs, ss, E⟩ := Γ
  obtain ⟨hx, hb, hml, hown, hts, hK, hZ, hr, hlk, rfl, rfl, hB, hcs⟩ := C
  exact fun r σ' h H locs ls w hl => lv_dup hx hb d hv (k r σ' h H locs ls w hl)
theorem rf_dup2 (C : CX Γ cc own rm ret nL B) {v u : Value} (d : decode cc pc = .ok (.dup2, 1)) (hv : v.category = 1) (hu : u.category = 1) (k : RF Γ Q x σ (pc + 1) lv (v :: u :: v :: u :: st)) : RF Γ Q x σ pc lv (v :: u :: st) := by
  obtain ⟨p, l, e, R, s, m, args, below, meth, c, nL', cs, ss, E⟩ := Γ
  obtain ⟨hx, hb, hml, hown, hts, hK, hZ, hr, hlk, rfl, rfl, hB, hcs⟩ := C
  exact fun r σ' h H locs ls w hl => lv_dup2_11 hx hb d hv hu (k r σ' h H locs ls w hl)
theorem rf_dup_x1 (C : CX Γ cc own rm ret nL B) {v u : Value} (d : decode cc pc = .ok (.dup_x1, 1)) (hv : v.category = 1) (hu : u.category = 1) (k : RF Γ Q x σ (pc + 1) lv (v :: u :: v :: st)) : RF Γ Q x σ pc lv (v :: u :: st) := by
  obtain ⟨p, l, e, R, s, m, args, below, meth, c, nL', cs, ss, E⟩ := Γ
  obtain ⟨hx, hb, hml, hown, hts, hK, hZ, hr, hlk, rfl, rfl, hB, hcs⟩ := C
  exact fun r σ' h H locs ls w hl => lv_dup_x1 hx hb d hv hu (k r σ' h H locs ls w hl)
theorem rf_pop (C : CX Γ cc own rm ret nL B) {v : Value} (d : decode cc pc = .ok (.pop, 1)) (hv : v.category = 1) (k : RF Γ Q x σ (pc + 1) lv (st)) : RF Γ Q x σ pc lv (v :: st) := by
  obtain ⟨p, l, e, R, s, m, args, below, meth, c, nL', cs, ss, E⟩ := Γ
  obtain ⟨hx, hb, hml, hown, hts, hK, hZ, hr, hlk, rfl, rfl, hB, hcs⟩ := C
  exact fun r σ' h H locs ls w hl => lv_pop hx hb d hv (k r σ' h H locs ls w hl)
theorem rf_ldc (C : CX Γ cc own rm ret nL B) {idx : Nat} {v : Int32} (d : decode cc pc = .ok (.ldc idx, 2)) (hc : Cond.constant own idx v ∈ wsL_law) (k : RF Γ Q x σ (pc + 2) lv (.int v :: st)) : RF Γ Q x σ pc lv (st) := by
  obtain ⟨p, l, e, R, s, m, args, below, meth, c, nL', cs, ss, E⟩ := Γ
  obtain ⟨hx, hb, hml, hown, hts, hK, hZ, hr, hlk, rfl, rfl, hB, hcs⟩ := C
  exact fun r σ' h H locs ls w hl => lv_ldc hx hb hown (hts _ hc) d (k r σ' h H locs ls w hl)
theorem rf_ldcw (C : CX Γ cc own rm ret nL B) {idx : Nat} {v : Int32} (d : decode cc pc = .ok (.ldc_w idx, 3)) (hc : Cond.constant own idx v ∈ wsL_law) (k : RF Γ Q x σ (pc + 3) lv (.int v :: st)) : RF Γ Q x σ pc lv (st) := by
  obtain ⟨p, l, e, R, s, m, args, below, meth, c, nL', cs, ss, E⟩ := Γ
  obtain ⟨hx, hb, hml, hown, hts, hK, hZ, hr, hlk, rfl, rfl, hB, hcs⟩ := C
  exact fun r σ' h H locs ls w hl => lv_ldcw hx hb hown (hts _ hc) d (k r σ' h H locs ls w hl)
theorem rf_ldc2 (C : CX Γ cc own rm ret nL B) {idx : Nat} {v : Int64} (d : decode cc pc = .ok (.ldc2_w idx, 3)) (hc : Cond.constantLong own idx v ∈ wsL_law) (k : RF Γ Q x σ (pc + 3) lv (.long v :: st)) : RF Γ Q x σ pc lv (st) := by
  obtain ⟨p, l, e, R, s, m, args, below, meth, c, nL', cs, ss, E⟩ := Γ
  obtain ⟨hx, hb, hml, hown, hts, hK, hZ, hr, hlk, rfl, rfl, hB, hcs⟩ := C
  exact fun r σ' h H locs ls w hl => lv_ldc2 hx hb hown (hts _ hc) d (k r σ' h H locs ls w hl)
theorem rf_idiv (C : CX Γ cc own rm ret nL B) {a b : Int32} (d : decode cc pc = .ok (.idiv, 1)) (hne : ¬ b = 0) (k : RF Γ Q x σ (pc + 1) lv (.int (a / b) :: st)) : RF Γ Q x σ pc lv (.int b :: .int a :: st) := by
  obtain ⟨p, l, e, R, s, m, args, below, meth, c, nL', cs, ss, E⟩ := Γ
  obtain ⟨hx, hb, hml, hown, hts, hK, hZ, hr, hlk, rfl, rfl, hB, hcs⟩ := C
  exact fun r σ' h H locs ls w hl => lv_idiv hx hb d hne (k r σ' h H locs ls w hl)
theorem rf_irem (C : CX Γ cc own rm ret nL B) {a b : Int32} (d : decode cc pc = .ok (.irem, 1)) (hne : ¬ b = 0) (k : RF Γ Q x σ (pc + 1) lv (.int (a - a / b * b) :: st)) : RF Γ Q x σ pc lv (.int b :: .int a :: st) := by
  obtain ⟨p, l, e, R, s, m, args, below, meth, c, nL', cs, ss, E⟩ := Γ
  obtain ⟨hx, hb, hml, hown, hts, hK, hZ, hr, hlk, rfl, rfl, hB, hcs⟩ := C
  exact fun r σ' h H locs ls w hl => lv_irem hx hb d hne (k r σ' h H locs ls w hl)
theorem rf_ishl (C : CX Γ cc own rm ret nL B) {a b : Int32} (d : decode cc pc = .ok (.ishl, 1)) (k : RF Γ Q x σ (pc + 1) lv (.int (a <<< (b &&& 31)) :: st)) : RF Γ Q x σ pc lv (.int b :: .int a :: st) := by
  obtain ⟨p, l, e, R, s, m, args, below, meth, c, nL', cs, ss, E⟩ := Γ
  obtain ⟨hx, hb, hml, hown, hts, hK, hZ, hr, hlk, rfl, rfl, hB, hcs⟩ := C
  exact fun r σ' h H locs ls w hl => lv_ishl hx hb d (k r σ' h H locs ls w hl)
theorem rf_ishr (C : CX Γ cc own rm ret nL B) {a b : Int32} (d : decode cc pc = .ok (.ishr, 1)) (k : RF Γ Q x σ (pc + 1) lv (.int (a >>> (b &&& 31)) :: st)) : RF Γ Q x σ pc lv (.int b :: .int a :: st) := by
  obtain ⟨p, l, e, R, s, m, args, below, meth, c, nL', cs, ss, E⟩ := Γ
  obtain ⟨hx, hb, hml, hown, hts, hK, hZ, hr, hlk, rfl, rfl, hB, hcs⟩ := C
  exact fun r σ' h H locs ls w hl => lv_ishr hx hb d (k r σ' h H locs ls w hl)
theorem rf_goto (C : CX Γ cc own rm ret nL B) {off : Int} (tgt : Nat) (d : decode cc pc = .ok (.goto off, 3)) (ht : (pc : Int) + off = (tgt : Int)) (k : RF Γ Q x σ tgt lv st) : RF Γ Q x σ pc lv st := by
  obtain ⟨p, l, e, R, s, m, args, below, meth, c, nL', cs, ss, E⟩ := Γ
  obtain ⟨hx, hb, hml, hown, hts, hK, hZ, hr, hlk, rfl, rfl, hB, hcs⟩ := C
  exact fun r σ' h H locs ls w hl => lv_goto hx hb d ht (k r σ' h H locs ls w hl)
theorem rf_div0 {b : Int32} {y : Option (α × PH)} (k : ¬ b = 0 → RF Γ Q y σ pc lv st) : RF Γ Q (if b = 0 then none else y) σ pc lv st := by
  by_cases h : b = 0
  · rw [if_pos h]; exact RF.none
  · rw [if_neg h]; exact k h
theorem rf_sub {lv' : List (Nat × Value)} (ks : List Nat) (h : lv_pick lv ks = lv') (k : RF Γ Q x σ pc lv' st) : RF Γ Q x σ pc lv st := by
  obtain ⟨p, l, e, R, s, m, args, below, meth, c, nL', cs, ss, E⟩ := Γ
  exact fun r σ' hx H locs ls w hl => k r σ' hx H locs ls w (lv_sub hl ks h)
theorem rf_nmi {v : Int32} {K : Int32 → Option (α × PH)} (k : ∀ a : Int32, RF Γ Q (K a) σ pc lv (.int a :: st)) : RF Γ Q (lt v K) σ pc lv (.int v :: st) := k v
theorem rf_nml {v : Int64} {K : Int64 → Option (α × PH)} (k : ∀ a : Int64, RF Γ Q (K a) σ pc lv (.long a :: st)) : RF Γ Q (lt v K) σ pc lv (.long v :: st) := k v
theorem rf_istore_n (C : CX Γ cc own rm ret nL B) {k0 : Fin 4} {i : Nat} {v : Int32} {K : Int32 → Option (α × PH)} (lv' : Int32 → List (Nat × Value)) (d : decode cc pc = .ok (.istore_n k0, 1)) (hi : (k0 : Nat) = i) (hn : i < nL) (hl' : ∀ a, (i, Value.int a) :: lv.filter (fun q => !(q.1 == i) && !(q.1 + 1 == i && q.2.category == 2)) = lv' a) (k : ∀ a : Int32, RF Γ Q (K a) σ (pc + 1) (lv' a) st) : RF Γ Q (lt v K) σ pc lv (.int v :: st) := by
  obtain ⟨p, l, e, R, s, m, args, below, meth, c, nL', cs, ss, E⟩ := Γ
  obtain ⟨hx, hb, hml, hown, hts, hK, hZ, hr, hlk, rfl, rfl, hB, hcs⟩ := C
  exact fun r σ' h H locs ls w hl => lv_istore_n hx hb d hi hl hn (hl' v) (fun ls hl => k v r σ' h H locs ls w hl)
theorem rf_istore (C : CX Γ cc own rm ret nL B) {i : Nat} {v : Int32} {K : Int32 → Option (α × PH)} (lv' : Int32 → List (Nat × Value)) (d : decode cc pc = .ok (.istore i, 2)) (hn : i < nL) (hl' : ∀ a, (i, Value.int a) :: lv.filter (fun q => !(q.1 == i) && !(q.1 + 1 == i && q.2.category == 2)) = lv' a) (k : ∀ a : Int32, RF Γ Q (K a) σ (pc + 2) (lv' a) st) : RF Γ Q (lt v K) σ pc lv (.int v :: st) := by
  obtain ⟨p, l, e, R, s, m, args, below, meth, c, nL', cs, ss, E⟩ := Γ
  obtain ⟨hx, hb, hml, hown, hts, hK, hZ, hr, hlk, rfl, rfl, hB, hcs⟩ := C
  exact fun r σ' h H locs ls w hl => lv_istore hx hb d hl hn (hl' v) (fun ls hl => k v r σ' h H locs ls w hl)
theorem rf_lstore_n (C : CX Γ cc own rm ret nL B) {k0 : Fin 4} {i : Nat} {v : Int64} {K : Int64 → Option (α × PH)} (lv' : Int64 → List (Nat × Value)) (d : decode cc pc = .ok (.lstore_n k0, 1)) (hi : (k0 : Nat) = i) (hn : i + 1 < nL) (hl' : ∀ a, (i, Value.long a) :: lv.filter (fun q => !(q.1 == i) && (!(q.1 == i + 1) && !(q.1 + 1 == i && q.2.category == 2))) = lv' a) (k : ∀ a : Int64, RF Γ Q (K a) σ (pc + 1) (lv' a) st) : RF Γ Q (lt v K) σ pc lv (.long v :: st) := by
  obtain ⟨p, l, e, R, s, m, args, below, meth, c, nL', cs, ss, E⟩ := Γ
  obtain ⟨hx, hb, hml, hown, hts, hK, hZ, hr, hlk, rfl, rfl, hB, hcs⟩ := C
  exact fun r σ' h H locs ls w hl => lv_lstore_n hx hb d hi hl hn (hl' v) (fun ls hl => k v r σ' h H locs ls w hl)
theorem rf_lstore (C : CX Γ cc own rm ret nL B) {i : Nat} {v : Int64} {K : Int64 → Option (α × PH)} (lv' : Int64 → List (Nat × Value)) (d : decode cc pc = .ok (.lstore i, 2)) (hn : i + 1 < nL) (hl' : ∀ a, (i, Value.long a) :: lv.filter (fun q => !(q.1 == i) && (!(q.1 == i + 1) && !(q.1 + 1 == i && q.2.category == 2))) = lv' a) (k : ∀ a : Int64, RF Γ Q (K a) σ (pc + 2) (lv' a) st) : RF Γ Q (lt v K) σ pc lv (.long v :: st) := by
  obtain ⟨p, l, e, R, s, m, args, below, meth, c, nL', cs, ss, E⟩ := Γ
  obtain ⟨hx, hb, hml, hown, hts, hK, hZ, hr, hlk, rfl, rfl, hB, hcs⟩ := C
  exact fun r σ' h H locs ls w hl => lv_lstore hx hb d hl hn (hl' v) (fun ls hl => k v r σ' h H locs ls w hl)
theorem rf_astore_n (C : CX Γ cc own rm ret nL B) {k0 : Fin 4} {i : Nat} {v : Nat} (lv' : List (Nat × Value)) (d : decode cc pc = .ok (.astore_n k0, 1)) (hi : (k0 : Nat) = i) (hn : i < nL) (hl' : (i, Value.ref v) :: lv.filter (fun q => !(q.1 == i) && !(q.1 + 1 == i && q.2.category == 2)) = lv') (k : RF Γ Q x σ (pc + 1) lv' st) : RF Γ Q x σ pc lv (.ref v :: st) := by
  obtain ⟨p, l, e, R, s, m, args, below, meth, c, nL', cs, ss, E⟩ := Γ
  obtain ⟨hx, hb, hml, hown, hts, hK, hZ, hr, hlk, rfl, rfl, hB, hcs⟩ := C
  exact fun r σ' h H locs ls w hl => lv_astore_n hx hb d hi hl hn hl' (fun ls hl => k r σ' h H locs ls w hl)
theorem rf_astore (C : CX Γ cc own rm ret nL B) {i : Nat} {v : Nat} (lv' : List (Nat × Value)) (d : decode cc pc = .ok (.astore i, 2)) (hn : i < nL) (hl' : (i, Value.ref v) :: lv.filter (fun q => !(q.1 == i) && !(q.1 + 1 == i && q.2.category == 2)) = lv') (k : RF Γ Q x σ (pc + 2) lv' st) : RF Γ Q x σ pc lv (.ref v :: st) := by
  obtain ⟨p, l, e, R, s, m, args, below, meth, c, nL', cs, ss, E⟩ := Γ
  obtain ⟨hx, hb, hml, hown, hts, hK, hZ, hr, hlk, rfl, rfl, hB, hcs⟩ := C
  exact fun r σ' h H locs ls w hl => lv_astore hx hb d hl hn hl' (fun ls hl => k r σ' h H locs ls w hl)
theorem rf_iinc (C : CX Γ cc own rm ret nL B) {i : Nat} {n : Int} {a v : Int32} {K : Int32 → Option (α × PH)} (lv' : Int32 → List (Nat × Value)) (d : decode cc pc = .ok (.iinc i n, 3)) (j : Nat) (hg : lv[j]? = some (i, .int a)) (hv : Int32.ofInt n = v) (hn : i < nL) (hl' : ∀ a, (i, Value.int a) :: lv.filter (fun q => !(q.1 == i) && !(q.1 + 1 == i && q.2.category == 2)) = lv' a) (k : ∀ a : Int32, RF Γ Q (K a) σ (pc + 3) (lv' a) st) : RF Γ Q (lt (a + v) K) σ pc lv st := by
  obtain ⟨p, l, e, R, s, m, args, below, meth, c, nL', cs, ss, E⟩ := Γ
  obtain ⟨hx, hb, hml, hown, hts, hK, hZ, hr, hlk, rfl, rfl, hB, hcs⟩ := C
  subst hv
  exact fun r σ' h H locs ls w hl => lv_iinc hx hb d hl (k := j) hg rfl hn (hl' _) (fun ls hl => k _ r σ' h H locs ls w hl)
theorem rf_icmp_eq (C : CX Γ cc own rm ret nL B) {a b : Int32} {off : Int} (tgt : Nat) {y z : Option (α × PH)} (d : decode cc pc = .ok (.if_icmp .eq off, 3)) (ht : (pc : Int) + off = (tgt : Int)) (kt : a = b → RF Γ Q y σ tgt lv st) (kf : ¬ a = b → RF Γ Q z σ (pc + 3) lv st) : RF Γ Q (if a = b then y else z) σ pc lv (.int b :: .int a :: st) := by
  obtain ⟨p, l, e, R, s, m, args, below, meth, c, nL', cs, ss, E⟩ := Γ
  obtain ⟨hx, hb, hml, hown, hts, hK, hZ, hr, hlk, rfl, rfl, hB, hcs⟩ := C
  exact fun r σ' h H locs ls w hl => lv_icmp_eq hx hb d ht (fun hc => kt hc r σ' (by rw [if_pos hc] at h; exact h) H locs ls w hl) (fun hc => kf hc r σ' (by rw [if_neg hc] at h; exact h) H locs ls w hl)
theorem rf_if_eq (C : CX Γ cc own rm ret nL B) {a : Int32} {off : Int} (tgt : Nat) {y z : Option (α × PH)} (d : decode cc pc = .ok (.ifCond .eq off, 3)) (ht : (pc : Int) + off = (tgt : Int)) (kt : a = 0 → RF Γ Q y σ tgt lv st) (kf : ¬ a = 0 → RF Γ Q z σ (pc + 3) lv st) : RF Γ Q (if a = 0 then y else z) σ pc lv (.int a :: st) := by
  obtain ⟨p, l, e, R, s, m, args, below, meth, c, nL', cs, ss, E⟩ := Γ
  obtain ⟨hx, hb, hml, hown, hts, hK, hZ, hr, hlk, rfl, rfl, hB, hcs⟩ := C
  exact fun r σ' h H locs ls w hl => lv_if_eq hx hb d ht (fun hc => kt hc r σ' (by rw [if_pos hc] at h; exact h) H locs ls w hl) (fun hc => kf hc r σ' (by rw [if_neg hc] at h; exact h) H locs ls w hl)
theorem rf_icmp_lt (C : CX Γ cc own rm ret nL B) {a b : Int32} {off : Int} (tgt : Nat) {y z : Option (α × PH)} (d : decode cc pc = .ok (.if_icmp .lt off, 3)) (ht : (pc : Int) + off = (tgt : Int)) (kt : a < b → RF Γ Q y σ tgt lv st) (kf : ¬ a < b → RF Γ Q z σ (pc + 3) lv st) : RF Γ Q (if a < b then y else z) σ pc lv (.int b :: .int a :: st) := by
  obtain ⟨p, l, e, R, s, m, args, below, meth, c, nL', cs, ss, E⟩ := Γ
  obtain ⟨hx, hb, hml, hown, hts, hK, hZ, hr, hlk, rfl, rfl, hB, hcs⟩ := C
  exact fun r σ' h H locs ls w hl => lv_icmp_lt hx hb d ht (fun hc => kt hc r σ' (by rw [if_pos hc] at h; exact h) H locs ls w hl) (fun hc => kf hc r σ' (by rw [if_neg hc] at h; exact h) H locs ls w hl)
theorem rf_if_lt (C : CX Γ cc own rm ret nL B) {a : Int32} {off : Int} (tgt : Nat) {y z : Option (α × PH)} (d : decode cc pc = .ok (.ifCond .lt off, 3)) (ht : (pc : Int) + off = (tgt : Int)) (kt : a < 0 → RF Γ Q y σ tgt lv st) (kf : ¬ a < 0 → RF Γ Q z σ (pc + 3) lv st) : RF Γ Q (if a < 0 then y else z) σ pc lv (.int a :: st) := by
  obtain ⟨p, l, e, R, s, m, args, below, meth, c, nL', cs, ss, E⟩ := Γ
  obtain ⟨hx, hb, hml, hown, hts, hK, hZ, hr, hlk, rfl, rfl, hB, hcs⟩ := C
  exact fun r σ' h H locs ls w hl => lv_if_lt hx hb d ht (fun hc => kt hc r σ' (by rw [if_pos hc] at h; exact h) H locs ls w hl) (fun hc => kf hc r σ' (by rw [if_neg hc] at h; exact h) H locs ls w hl)
theorem rf_icmp_ge (C : CX Γ cc own rm ret nL B) {a b : Int32} {off : Int} (tgt : Nat) {y z : Option (α × PH)} (d : decode cc pc = .ok (.if_icmp .ge off, 3)) (ht : (pc : Int) + off = (tgt : Int)) (kt : b ≤ a → RF Γ Q y σ tgt lv st) (kf : ¬ b ≤ a → RF Γ Q z σ (pc + 3) lv st) : RF Γ Q (if b ≤ a then y else z) σ pc lv (.int b :: .int a :: st) := by
  obtain ⟨p, l, e, R, s, m, args, below, meth, c, nL', cs, ss, E⟩ := Γ
  obtain ⟨hx, hb, hml, hown, hts, hK, hZ, hr, hlk, rfl, rfl, hB, hcs⟩ := C
  exact fun r σ' h H locs ls w hl => lv_icmp_ge hx hb d ht (fun hc => kt hc r σ' (by rw [if_pos hc] at h; exact h) H locs ls w hl) (fun hc => kf hc r σ' (by rw [if_neg hc] at h; exact h) H locs ls w hl)
theorem rf_if_ge (C : CX Γ cc own rm ret nL B) {a : Int32} {off : Int} (tgt : Nat) {y z : Option (α × PH)} (d : decode cc pc = .ok (.ifCond .ge off, 3)) (ht : (pc : Int) + off = (tgt : Int)) (kt : 0 ≤ a → RF Γ Q y σ tgt lv st) (kf : ¬ 0 ≤ a → RF Γ Q z σ (pc + 3) lv st) : RF Γ Q (if 0 ≤ a then y else z) σ pc lv (.int a :: st) := by
  obtain ⟨p, l, e, R, s, m, args, below, meth, c, nL', cs, ss, E⟩ := Γ
  obtain ⟨hx, hb, hml, hown, hts, hK, hZ, hr, hlk, rfl, rfl, hB, hcs⟩ := C
  exact fun r σ' h H locs ls w hl => lv_if_ge hx hb d ht (fun hc => kt hc r σ' (by rw [if_pos hc] at h; exact h) H locs ls w hl) (fun hc => kf hc r σ' (by rw [if_neg hc] at h; exact h) H locs ls w hl)
theorem rf_icmp_gt (C : CX Γ cc own rm ret nL B) {a b : Int32} {off : Int} (tgt : Nat) {y z : Option (α × PH)} (d : decode cc pc = .ok (.if_icmp .gt off, 3)) (ht : (pc : Int) + off = (tgt : Int)) (kt : b < a → RF Γ Q y σ tgt lv st) (kf : ¬ b < a → RF Γ Q z σ (pc + 3) lv st) : RF Γ Q (if b < a then y else z) σ pc lv (.int b :: .int a :: st) := by
  obtain ⟨p, l, e, R, s, m, args, below, meth, c, nL', cs, ss, E⟩ := Γ
  obtain ⟨hx, hb, hml, hown, hts, hK, hZ, hr, hlk, rfl, rfl, hB, hcs⟩ := C
  exact fun r σ' h H locs ls w hl => lv_icmp_gt hx hb d ht (fun hc => kt hc r σ' (by rw [if_pos hc] at h; exact h) H locs ls w hl) (fun hc => kf hc r σ' (by rw [if_neg hc] at h; exact h) H locs ls w hl)
theorem rf_if_gt (C : CX Γ cc own rm ret nL B) {a : Int32} {off : Int} (tgt : Nat) {y z : Option (α × PH)} (d : decode cc pc = .ok (.ifCond .gt off, 3)) (ht : (pc : Int) + off = (tgt : Int)) (kt : 0 < a → RF Γ Q y σ tgt lv st) (kf : ¬ 0 < a → RF Γ Q z σ (pc + 3) lv st) : RF Γ Q (if 0 < a then y else z) σ pc lv (.int a :: st) := by
  obtain ⟨p, l, e, R, s, m, args, below, meth, c, nL', cs, ss, E⟩ := Γ
  obtain ⟨hx, hb, hml, hown, hts, hK, hZ, hr, hlk, rfl, rfl, hB, hcs⟩ := C
  exact fun r σ' h H locs ls w hl => lv_if_gt hx hb d ht (fun hc => kt hc r σ' (by rw [if_pos hc] at h; exact h) H locs ls w hl) (fun hc => kf hc r σ' (by rw [if_neg hc] at h; exact h) H locs ls w hl)
theorem rf_icmp_le (C : CX Γ cc own rm ret nL B) {a b : Int32} {off : Int} (tgt : Nat) {y z : Option (α × PH)} (d : decode cc pc = .ok (.if_icmp .le off, 3)) (ht : (pc : Int) + off = (tgt : Int)) (kt : a ≤ b → RF Γ Q y σ tgt lv st) (kf : ¬ a ≤ b → RF Γ Q z σ (pc + 3) lv st) : RF Γ Q (if a ≤ b then y else z) σ pc lv (.int b :: .int a :: st) := by
  obtain ⟨p, l, e, R, s, m, args, below, meth, c, nL', cs, ss, E⟩ := Γ
  obtain ⟨hx, hb, hml, hown, hts, hK, hZ, hr, hlk, rfl, rfl, hB, hcs⟩ := C
  exact fun r σ' h H locs ls w hl => lv_icmp_le hx hb d ht (fun hc => kt hc r σ' (by rw [if_pos hc] at h; exact h) H locs ls w hl) (fun hc => kf hc r σ' (by rw [if_neg hc] at h; exact h) H locs ls w hl)
theorem rf_if_le (C : CX Γ cc own rm ret nL B) {a : Int32} {off : Int} (tgt : Nat) {y z : Option (α × PH)} (d : decode cc pc = .ok (.ifCond .le off, 3)) (ht : (pc : Int) + off = (tgt : Int)) (kt : a ≤ 0 → RF Γ Q y σ tgt lv st) (kf : ¬ a ≤ 0 → RF Γ Q z σ (pc + 3) lv st) : RF Γ Q (if a ≤ 0 then y else z) σ pc lv (.int a :: st) := by
  obtain ⟨p, l, e, R, s, m, args, below, meth, c, nL', cs, ss, E⟩ := Γ
  obtain ⟨hx, hb, hml, hown, hts, hK, hZ, hr, hlk, rfl, rfl, hB, hcs⟩ := C
  exact fun r σ' h H locs ls w hl => lv_if_le hx hb d ht (fun hc => kt hc r σ' (by rw [if_pos hc] at h; exact h) H locs ls w hl) (fun hc => kf hc r σ' (by rw [if_neg hc] at h; exact h) H locs ls w hl)
theorem rf_icmp_ne (C : CX Γ cc own rm ret nL B) {a b : Int32} {off : Int} (tgt : Nat) {y z : Option (α × PH)} (d : decode cc pc = .ok (.if_icmp .ne off, 3)) (ht : (pc : Int) + off = (tgt : Int)) (kt : ¬ a = b → RF Γ Q y σ tgt lv st) (kf : a = b → RF Γ Q z σ (pc + 3) lv st) : RF Γ Q (if a = b then z else y) σ pc lv (.int b :: .int a :: st) := by
  obtain ⟨p, l, e, R, s, m, args, below, meth, c, nL', cs, ss, E⟩ := Γ
  obtain ⟨hx, hb, hml, hown, hts, hK, hZ, hr, hlk, rfl, rfl, hB, hcs⟩ := C
  exact fun r σ' h H locs ls w hl => lv_icmp_ne hx hb d ht (fun hc => kt hc r σ' (by rw [if_neg hc] at h; exact h) H locs ls w hl) (fun hc => kf hc r σ' (by rw [if_pos hc] at h; exact h) H locs ls w hl)
theorem rf_if_ne (C : CX Γ cc own rm ret nL B) {a : Int32} {off : Int} (tgt : Nat) {y z : Option (α × PH)} (d : decode cc pc = .ok (.ifCond .ne off, 3)) (ht : (pc : Int) + off = (tgt : Int)) (kt : ¬ a = 0 → RF Γ Q y σ tgt lv st) (kf : a = 0 → RF Γ Q z σ (pc + 3) lv st) : RF Γ Q (if a = 0 then z else y) σ pc lv (.int a :: st) := by
  obtain ⟨p, l, e, R, s, m, args, below, meth, c, nL', cs, ss, E⟩ := Γ
  obtain ⟨hx, hb, hml, hown, hts, hK, hZ, hr, hlk, rfl, rfl, hB, hcs⟩ := C
  exact fun r σ' h H locs ls w hl => lv_if_ne hx hb d ht (fun hc => kt hc r σ' (by rw [if_neg hc] at h; exact h) H locs ls w hl) (fun hc => kf hc r σ' (by rw [if_pos hc] at h; exact h) H locs ls w hl)
theorem lcmp_eq {a b : Int64} : lg_cmp a b = 0 ↔ a = b := by
  unfold lg_cmp
  by_cases h1 : a > b
  · rw [if_pos h1]
    exact ⟨fun h => absurd h (by decide), fun h => by subst h; exact absurd h1 (Int64.lt_irrefl)⟩
  · rw [if_neg h1]
    by_cases h2 : a = b
    · rw [if_pos h2]; exact ⟨fun _ => h2, fun _ => rfl⟩
    · rw [if_neg h2]; exact ⟨fun h => absurd h (by decide), fun h => absurd h h2⟩
theorem lcmp_ge {a b : Int64} : 0 ≤ lg_cmp a b ↔ b ≤ a := by
  unfold lg_cmp
  by_cases h1 : a > b
  · rw [if_pos h1]
    exact ⟨fun _ => Int64.le_of_lt h1, fun _ => by decide⟩
  · rw [if_neg h1]
    by_cases h2 : a = b
    · subst h2; rw [if_pos rfl]; exact ⟨fun _ => Int64.le_refl _, fun _ => by decide⟩
    · rw [if_neg h2]
      refine ⟨fun h => absurd h (by decide), fun h => absurd ?_ h1⟩
      rcases Int64.lt_or_eq_of_le h with q | q
      · exact q
      · exact absurd q.symm h2
theorem lcmp_le {a b : Int64} : lg_cmp a b ≤ 0 ↔ a ≤ b := by
  unfold lg_cmp
  by_cases h1 : a > b
  · rw [if_pos h1]
    exact ⟨fun h => absurd h (by decide), fun h => absurd h1 (Int64.not_lt.mpr h)⟩
  · rw [if_neg h1]
    by_cases h2 : a = b
    · subst h2; rw [if_pos rfl]; exact ⟨fun _ => Int64.le_refl _, fun _ => by decide⟩
    · rw [if_neg h2]; exact ⟨fun _ => Int64.not_lt.mp h1, fun _ => by decide⟩
theorem rf_lcmp_eq (C : CX Γ cc own rm ret nL B) {a b : Int64} {off : Int} (tgt : Nat) {y z : Option (α × PH)} (d : decode cc pc = .ok (.lcmp, 1)) (d2 : decode cc (pc + 1) = .ok (.ifCond .eq off, 3)) (ht : ((pc + 1 : Nat) : Int) + off = (tgt : Int)) (kt : a = b → RF Γ Q y σ tgt lv st) (kf : ¬ a = b → RF Γ Q z σ (pc + 1 + 3) lv st) : RF Γ Q (if a = b then y else z) σ pc lv (.long b :: .long a :: st) := by
  obtain ⟨p, l, e, R, s, m, args, below, meth, c, nL', cs, ss, E⟩ := Γ
  obtain ⟨hx, hb, hml, hown, hts, hK, hZ, hr, hlk, rfl, rfl, hB, hcs⟩ := C
  exact fun r σ' h H locs ls w hl => W.lcmp hx hb d (lv_if_eq hx hb d2 ht (fun hc => kt (lcmp_eq.mp hc) r σ' (by rw [if_pos (lcmp_eq.mp hc)] at h; exact h) H locs ls w hl) (fun hc => kf (fun q => hc (lcmp_eq.mpr q)) r σ' (by rw [if_neg (fun q => hc (lcmp_eq.mpr q))] at h; exact h) H locs ls w hl))
theorem rf_lcmp_ge (C : CX Γ cc own rm ret nL B) {a b : Int64} {off : Int} (tgt : Nat) {y z : Option (α × PH)} (d : decode cc pc = .ok (.lcmp, 1)) (d2 : decode cc (pc + 1) = .ok (.ifCond .ge off, 3)) (ht : ((pc + 1 : Nat) : Int) + off = (tgt : Int)) (kt : b ≤ a → RF Γ Q y σ tgt lv st) (kf : ¬ b ≤ a → RF Γ Q z σ (pc + 1 + 3) lv st) : RF Γ Q (if b ≤ a then y else z) σ pc lv (.long b :: .long a :: st) := by
  obtain ⟨p, l, e, R, s, m, args, below, meth, c, nL', cs, ss, E⟩ := Γ
  obtain ⟨hx, hb, hml, hown, hts, hK, hZ, hr, hlk, rfl, rfl, hB, hcs⟩ := C
  exact fun r σ' h H locs ls w hl => W.lcmp hx hb d (lv_if_ge hx hb d2 ht (fun hc => kt (lcmp_ge.mp hc) r σ' (by rw [if_pos (lcmp_ge.mp hc)] at h; exact h) H locs ls w hl) (fun hc => kf (fun q => hc (lcmp_ge.mpr q)) r σ' (by rw [if_neg (fun q => hc (lcmp_ge.mpr q))] at h; exact h) H locs ls w hl))
theorem rf_lcmp_le (C : CX Γ cc own rm ret nL B) {a b : Int64} {off : Int} (tgt : Nat) {y z : Option (α × PH)} (d : decode cc pc = .ok (.lcmp, 1)) (d2 : decode cc (pc + 1) = .ok (.ifCond .le off, 3)) (ht : ((pc + 1 : Nat) : Int) + off = (tgt : Int)) (kt : a ≤ b → RF Γ Q y σ tgt lv st) (kf : ¬ a ≤ b → RF Γ Q z σ (pc + 1 + 3) lv st) : RF Γ Q (if a ≤ b then y else z) σ pc lv (.long b :: .long a :: st) := by
  obtain ⟨p, l, e, R, s, m, args, below, meth, c, nL', cs, ss, E⟩ := Γ
  obtain ⟨hx, hb, hml, hown, hts, hK, hZ, hr, hlk, rfl, rfl, hB, hcs⟩ := C
  exact fun r σ' h H locs ls w hl => W.lcmp hx hb d (lv_if_le hx hb d2 ht (fun hc => kt (lcmp_le.mp hc) r σ' (by rw [if_pos (lcmp_le.mp hc)] at h; exact h) H locs ls w hl) (fun hc => kf (fun q => hc (lcmp_le.mpr q)) r σ' (by rw [if_neg (fun q => hc (lcmp_le.mpr q))] at h; exact h) H locs ls w hl))
theorem rf_lcmp_ne (C : CX Γ cc own rm ret nL B) {a b : Int64} {off : Int} (tgt : Nat) {y z : Option (α × PH)} (d : decode cc pc = .ok (.lcmp, 1)) (d2 : decode cc (pc + 1) = .ok (.ifCond .ne off, 3)) (ht : ((pc + 1 : Nat) : Int) + off = (tgt : Int)) (kt : ¬ a = b → RF Γ Q y σ tgt lv st) (kf : a = b → RF Γ Q z σ (pc + 1 + 3) lv st) : RF Γ Q (if a = b then z else y) σ pc lv (.long b :: .long a :: st) := by
  obtain ⟨p, l, e, R, s, m, args, below, meth, c, nL', cs, ss, E⟩ := Γ
  obtain ⟨hx, hb, hml, hown, hts, hK, hZ, hr, hlk, rfl, rfl, hB, hcs⟩ := C
  exact fun r σ' h H locs ls w hl => W.lcmp hx hb d (lv_if_ne hx hb d2 ht (fun hc => kt (fun q => hc (lcmp_eq.mpr q)) r σ' (by rw [if_neg (fun q => hc (lcmp_eq.mpr q))] at h; exact h) H locs ls w hl) (fun hc => kf (lcmp_eq.mp hc) r σ' (by rw [if_pos (lcmp_eq.mp hc)] at h; exact h) H locs ls w hl))
theorem rf_get (C : CX Γ cc own rm ret nL B) {q ci N kf idx : Nat} {Cn : String} {T : u_T} {ty : Nat → FieldType} {F : GE → (Nat → Int32) → (Nat → Int64) → (Nat → Nat) → List Value} {v : Value} (cf : CF ci Cn T N ty) (fl : FL own idx T kf) (hk : kf < N) (ho : isO B q ci F) (hv : (F (gE Γ) (σ.1 q) (σ.2.1 q) (σ.2.2 q))[kf]? = some v) (d : decode cc pc = .ok (.getfield idx, 3)) (k : RF Γ Q x σ (pc + 3) lv (v :: st)) : RF Γ Q x σ pc lv (.ref ((gE Γ).2.1 q) :: st) := by
  obtain ⟨p, l, e, R, s, m, args, below, meth, c, nL', cs, ss, E⟩ := Γ
  obtain ⟨hx, hb, hml, hown, hts, hK, hZ, hr, hlk, rfl, rfl, hB, hcs⟩ := C
  exact fun r σ' h H locs ls w hl => va_get (tys := tyE E) hx hb hts cf.2.1 hown hK w.1 q (wsO ho hB) cf.1 kf hk (hts _ fl) (fun _ h => h) hv d (k r σ' h H locs ls w hl)
theorem rf_getG (C : CX Γ cc own rm ret nL B) {q ci N kf idx : Nat} {Cn : String} {T : u_T} {ty : Nat → FieldType} {F : GE → (Nat → Int32) → (Nat → Int64) → (Nat → Nat) → List Value} {K : Nat → Option (α × PH)} (cf : CF ci Cn T N ty) (fl : FL own idx T kf) (hk : kf < N) (ho : isO B q ci F) (hv : ∀ E i l g, (F E i l g)[kf]? = some (.ref (E.2.1 (gId (g kf) 0)))) (d : decode cc pc = .ok (.getfield idx, 3)) (k : ∀ g : Nat, g < 6 → RF Γ Q (K g) σ (pc + 3) lv (.ref ((gE Γ).2.1 (gId g 0)) :: st)) : RF Γ Q (lt (σ.2.2 q kf) K) σ pc lv (.ref ((gE Γ).2.1 q) :: st) := by
  obtain ⟨p, l, e, R, s, m, args, below, meth, c, nL', cs, ss, E⟩ := Γ
  obtain ⟨hx, hb, hml, hown, hts, hK, hZ, hr, hlk, rfl, rfl, hB, hcs⟩ := C
  exact fun r σ' h H locs ls w hl => va_get (tys := tyE E) hx hb hts cf.2.1 hown hK w.1 q (wsO ho hB) cf.1 kf hk (hts _ fl) (fun _ h => h) (hv _ _ _ _) d (k _ (w.2.2.2 _ _) r σ' h H locs ls w hl)
theorem rf_puti (C : CX Γ cc own rm ret nL B) {q ci N kf idx : Nat} {Cn : String} {T : u_T} {ty : Nat → FieldType} {F : GE → (Nat → Int32) → (Nat → Int64) → (Nat → Nat) → List Value} {v : Int32} {K : PH → Option (α × PH)} (cf : CF ci Cn T N ty) (fl : FL own idx T kf) (hk : kf < N) (hfin : (T kf).2.2.2 = false) (ho : isO B q ci F) {fty : FieldType} (hty : ty kf = fty) (hn : narrow fty (.int v) = .int v) (hfit : fits fty (.int v) = true) (hlen : ∀ E i l g, kf < (F E i l g).length) (hset : ∀ E i l g, F E (fun b => if b = kf then v else i b) l g = (F E i l g).set kf (.int v)) (d : decode cc pc = .ok (.putfield idx, 3)) (k : ∀ σ1 : PH, RF Γ Q (K σ1) σ1 (pc + 3) lv st) : RF Γ Q (lt (si σ q kf v) K) σ pc lv (.int v :: .ref ((gE Γ).2.1 q) :: st) := by
  obtain ⟨p, l, e, R, s, m, args, below, meth, c, nL', cs, ss, E⟩ := Γ
  obtain ⟨hx, hb, hml, hown, hts, hK, hZ, hr, hlk, rfl, rfl, hB, hcs⟩ := C
  intro r σ' h H locs ls w hl
  have he : ent E (si σ q kf v) q = .inr (ci, (F E (σ.1 q) (σ.2.1 q) (σ.2.2 q)).set kf (.int v)) := by
    rw [ent_si, ho.2, hset]
  have hw : (wsE E σ).set q (E.2.1 q, .inr (ci, (F E (σ.1 q) (σ.2.1 q) (σ.2.2 q)).set kf (.int v))) = wsE E (si σ q kf v) := by
    rw [← he]
    exact wsE_upd (fun a h => by first | rfl | exact pset_o _ _ _ h) (fun a h => by first | rfl | exact pset_o _ _ _ h) (fun a h => rfl)
  refine va_put (tys := tyE E) (ty := fty) hx hb hts cf.2.1 ty cf.2.2.1 cf.2.2.2 hown hK w.1 w.2.1 w.2.2.1 q (wsO ho hB) cf.1 kf hk (hts _ fl) (fun _ h => h) hfin (by rw [cf.2.2.1 kf hk, hty]) hn hfit (hlen _ _ _ _) d (fun H1 locs1 hP hD hS => ?_)
  rw [hw] at hP hD
  exact k _ r σ' h H1 locs1 ls ⟨hP, hD, hS, w.2.2.2⟩ hl
theorem rf_putl (C : CX Γ cc own rm ret nL B) {q ci N kf idx : Nat} {Cn : String} {T : u_T} {ty : Nat → FieldType} {F : GE → (Nat → Int32) → (Nat → Int64) → (Nat → Nat) → List Value} {v : Int64} {K : PH → Option (α × PH)} (cf : CF ci Cn T N ty) (fl : FL own idx T kf) (hk : kf < N) (hfin : (T kf).2.2.2 = false) (ho : isO B q ci F) {fty : FieldType} (hty : ty kf = fty) (hn : narrow fty (.long v) = .long v) (hfit : fits fty (.long v) = true) (hlen : ∀ E i l g, kf < (F E i l g).length) (hset : ∀ E i l g, F E i (fun b => if b = kf then v else l b) g = (F E i l g).set kf (.long v)) (d : decode cc pc = .ok (.putfield idx, 3)) (k : ∀ σ1 : PH, RF Γ Q (K σ1) σ1 (pc + 3) lv st) : RF Γ Q (lt (sl σ q kf v) K) σ pc lv (.long v :: .ref ((gE Γ).2.1 q) :: st) := by
  obtain ⟨p, l, e, R, s, m, args, below, meth, c, nL', cs, ss, E⟩ := Γ
  obtain ⟨hx, hb, hml, hown, hts, hK, hZ, hr, hlk, rfl, rfl, hB, hcs⟩ := C
  intro r σ' h H locs ls w hl
  have he : ent E (sl σ q kf v) q = .inr (ci, (F E (σ.1 q) (σ.2.1 q) (σ.2.2 q)).set kf (.long v)) := by
    rw [ent_sl, ho.2, hset]
  have hw : (wsE E σ).set q (E.2.1 q, .inr (ci, (F E (σ.1 q) (σ.2.1 q) (σ.2.2 q)).set kf (.long v))) = wsE E (sl σ q kf v) := by
    rw [← he]
    exact wsE_upd (fun a h => by first | rfl | exact pset_o _ _ _ h) (fun a h => by first | rfl | exact pset_o _ _ _ h) (fun a h => rfl)
  refine va_put (tys := tyE E) (ty := fty) hx hb hts cf.2.1 ty cf.2.2.1 cf.2.2.2 hown hK w.1 w.2.1 w.2.2.1 q (wsO ho hB) cf.1 kf hk (hts _ fl) (fun _ h => h) hfin (by rw [cf.2.2.1 kf hk, hty]) hn hfit (hlen _ _ _ _) d (fun H1 locs1 hP hD hS => ?_)
  rw [hw] at hP hD
  exact k _ r σ' h H1 locs1 ls ⟨hP, hD, hS, w.2.2.2⟩ hl
theorem rf_putG (C : CX Γ cc own rm ret nL B) {q ci N kf idx : Nat} {Cn : String} {T : u_T} {ty : Nat → FieldType} {F : GE → (Nat → Int32) → (Nat → Int64) → (Nat → Nat) → List Value} {v : Nat} {K : PH → Option (α × PH)} (h6 : v < 6) (cf : CF ci Cn T N ty) (fl : FL own idx T kf) (hk : kf < N) (hfin : (T kf).2.2.2 = false) (ho : isO B q ci F) (hty : ty kf = .object RX4) (hlen : ∀ E i l g, kf < (F E i l g).length) (hset : ∀ E i l g, F E i l (fun b => if b = kf then v else g b) = (F E i l g).set kf (.ref (E.2.1 (gId v 0)))) (d : decode cc pc = .ok (.putfield idx, 3)) (k : ∀ σ1 : PH, RF Γ Q (K σ1) σ1 (pc + 3) lv st) : RF Γ Q (lt (sg σ q kf v) K) σ pc lv (.ref ((gE Γ).2.1 (gId v 0)) :: .ref ((gE Γ).2.1 q) :: st) := by
  obtain ⟨p, l, e, R, s, m, args, below, meth, c, nL', cs, ss, E⟩ := Γ
  obtain ⟨hx, hb, hml, hown, hts, hK, hZ, hr, hlk, rfl, rfl, hB, hcs⟩ := C
  intro r σ' h H locs ls w hl
  have he : ent E (sg σ q kf v) q = .inr (ci, (F E (σ.1 q) (σ.2.1 q) (σ.2.2 q)).set kf (.ref (E.2.1 (gId v 0)))) := by
    rw [ent_sg, ho.2, hset]
  have hw : (wsE E σ).set q (E.2.1 q, .inr (ci, (F E (σ.1 q) (σ.2.1 q) (σ.2.2 q)).set kf (.ref (E.2.1 (gId v 0))))) = wsE E (sg σ q kf v) := by
    rw [← he]
    exact wsE_upd (fun a h => rfl) (fun a h => rfl) (fun a h => pset_o _ _ _ h)
  refine va_put (tys := tyE E) (ty := .object RX4) hx hb hts cf.2.1 ty cf.2.2.1 cf.2.2.2 hown hK w.1 w.2.1 w.2.2.1 q (wsO ho hB) cf.1 kf hk (hts _ fl) (fun _ h => h) hfin (by rw [cf.2.2.1 kf hk, hty]) rfl rfl (hlen _ _ _ _) d (fun H1 locs1 hP hD hS => ?_)
  have hP : va_P E.1 vwCl ((wsE E σ).set q (E.2.1 q, .inr (ci, (F E (σ.1 q) (σ.2.1 q) (σ.2.2 q)).set kf (.ref (E.2.1 (gId v 0)))))) H1 := hP
  have hD : va_D (AE E) ((wsE E σ).set q (E.2.1 q, .inr (ci, (F E (σ.1 q) (σ.2.1 q) (σ.2.2 q)).set kf (.ref (E.2.1 (gId v 0)))))) := hD
  rw [hw] at hP hD
  refine k _ r σ' h H1 locs1 ls ⟨hP, hD, hS, pset6 h6 w.2.2.2⟩ hl
theorem rf_iald (C : CX Γ cc own rm ret nL B) {q n : Nat} {i : Int32} {K : Int32 → Option (α × PH)} (ha : isI B q n) (d : decode cc pc = .ok (.iaload, 1)) (k : ∀ v : Int32, RF Γ Q (K v) σ (pc + 1) lv (.int v :: st)) : RF Γ Q (ra n i (σ.1 q) K) σ pc lv (.int i :: .ref ((gE Γ).2.1 q) :: st) := by
  obtain ⟨p, l, e, R, s, m, args, below, meth, c, nL', cs, ss, E⟩ := Γ
  obtain ⟨hx, hb, hml, hown, hts, hK, hZ, hr, hlk, rfl, rfl, hB, hcs⟩ := C
  intro r σ' h H locs ls w hl
  obtain ⟨hin, h⟩ := ra_some h
  exact va_iald (tys := tyE E) hx hb hK w.1 q 0 (wsI ha hB) rfl (inb_vp hin) d (k _ r σ' h H locs ls w hl)
theorem rf_zald (C : CX Γ cc own rm ret nL B) {q n : Nat} {i : Int32} {K : Int32 → Option (α × PH)} (ha : isZ B q n) (d : decode cc pc = .ok (.baload, 1)) (k : ∀ v : Int32, RF Γ Q (K v) σ (pc + 1) lv (.int v :: st)) : RF Γ Q (ra n i (σ.1 q) K) σ pc lv (.int i :: .ref ((gE Γ).2.1 q) :: st) := by
  obtain ⟨p, l, e, R, s, m, args, below, meth, c, nL', cs, ss, E⟩ := Γ
  obtain ⟨hx, hb, hml, hown, hts, hK, hZ, hr, hlk, rfl, rfl, hB, hcs⟩ := C
  intro r σ' h H locs ls w hl
  obtain ⟨hin, h⟩ := ra_some h
  exact va_zald (tys := tyE E) hx hb hK w.1 q 1 (wsZ ha hB) rfl (inb_vp hin) d (k _ r σ' h H locs ls w hl)
theorem rf_lald (C : CX Γ cc own rm ret nL B) {q n : Nat} {i : Int32} {K : Int64 → Option (α × PH)} (ha : isJ B q n) (d : decode cc pc = .ok (.laload, 1)) (k : ∀ v : Int64, RF Γ Q (K v) σ (pc + 1) lv (.long v :: st)) : RF Γ Q (ra n i (σ.2.1 q) K) σ pc lv (.int i :: .ref ((gE Γ).2.1 q) :: st) := by
  obtain ⟨p, l, e, R, s, m, args, below, meth, c, nL', cs, ss, E⟩ := Γ
  obtain ⟨hx, hb, hml, hown, hts, hK, hZ, hr, hlk, rfl, rfl, hB, hcs⟩ := C
  intro r σ' h H locs ls w hl
  obtain ⟨hin, h⟩ := ra_some h
  exact va_lald (tys := tyE E) hx hb hK w.1 q 2 (wsJ ha hB) rfl (inb_vp hin) d (k _ r σ' h H locs ls w hl)
theorem rf_iast (C : CX Γ cc own rm ret nL B) {q n : Nat} {i : Int32} {v : Int32} {K : PH → Option (α × PH)} (ha : isI B q n) (d : decode cc pc = .ok (.iastore, 1)) (k : ∀ σ1 : PH, RF Γ Q (K σ1) σ1 (pc + 1) lv st) : RF Γ Q (wa n i (lt (si σ q i.toNatClampNeg v) K)) σ pc lv (.int v :: .int i :: .ref ((gE Γ).2.1 q) :: st) := by
  obtain ⟨p, l, e, R, s, m, args, below, meth, c, nL', cs, ss, E⟩ := Γ
  obtain ⟨hx, hb, hml, hown, hts, hK, hZ, hr, hlk, rfl, rfl, hB, hcs⟩ := C
  intro r σ' h H locs ls w hl
  obtain ⟨hin, h⟩ := wa_some h
  have he : ent E (si σ q i.toNatClampNeg v) q = .inl (E.2.2.1 0, n, .inl (upd (σ.1 q) i.toNatClampNeg v)) := by
    rw [ent_si, ha.2]
    rfl
  have hw : (wsE E σ).set q (E.2.1 q, .inl (E.2.2.1 0, n, .inl (upd (σ.1 q) i.toNatClampNeg v))) = wsE E (si σ q i.toNatClampNeg v) := by
    rw [← he]
    exact wsE_upd (fun a h => by first | rfl | exact pset_o _ _ _ h) (fun a h => by first | rfl | exact pset_o _ _ _ h) (fun a h => rfl)
  refine va_iast (tys := tyE E) hx hb hK w.1 w.2.1 w.2.2.1 q 0 (wsI ha hB) rfl (inb_vp hin) d (fun H1 locs1 hP hD hS => ?_)
  have hP : va_P E.1 vwCl ((wsE E σ).set q (E.2.1 q, .inl (E.2.2.1 0, n, .inl (upd (σ.1 q) i.toNatClampNeg v)))) H1 := hP
  have hD : va_D (AE E) ((wsE E σ).set q (E.2.1 q, .inl (E.2.2.1 0, n, .inl (upd (σ.1 q) i.toNatClampNeg v)))) := hD
  rw [hw] at hP hD
  exact k _ r σ' h H1 locs1 ls ⟨hP, hD, hS, w.2.2.2⟩ hl
theorem rf_zast (C : CX Γ cc own rm ret nL B) {q n : Nat} {i : Int32} {v : Int32} {K : PH → Option (α × PH)} (ha : isZ B q n) (d : decode cc pc = .ok (.bastore, 1)) (k : ∀ σ1 : PH, RF Γ Q (K σ1) σ1 (pc + 1) lv st) : RF Γ Q (wa n i (lt (si σ q i.toNatClampNeg (nz v)) K)) σ pc lv (.int v :: .int i :: .ref ((gE Γ).2.1 q) :: st) := by
  obtain ⟨p, l, e, R, s, m, args, below, meth, c, nL', cs, ss, E⟩ := Γ
  obtain ⟨hx, hb, hml, hown, hts, hK, hZ, hr, hlk, rfl, rfl, hB, hcs⟩ := C
  intro r σ' h H locs ls w hl
  obtain ⟨hin, h⟩ := wa_some h
  have he : ent E (si σ q i.toNatClampNeg (nz v)) q = .inl (E.2.2.1 1, n, .inl (upd (σ.1 q) i.toNatClampNeg (nz v))) := by
    rw [ent_si, ha.2]
    rfl
  have hw : (wsE E σ).set q (E.2.1 q, .inl (E.2.2.1 1, n, .inl (upd (σ.1 q) i.toNatClampNeg (nz v)))) = wsE E (si σ q i.toNatClampNeg (nz v)) := by
    rw [← he]
    exact wsE_upd (fun a h => by first | rfl | exact pset_o _ _ _ h) (fun a h => by first | rfl | exact pset_o _ _ _ h) (fun a h => rfl)
  refine va_zast (tys := tyE E) hx hb hK w.1 w.2.1 w.2.2.1 q 1 (wsZ ha hB) rfl (inb_vp hin) d (fun H1 locs1 hP hD hS => ?_)
  have hP : va_P E.1 vwCl ((wsE E σ).set q (E.2.1 q, .inl (E.2.2.1 1, n, .inl (upd (σ.1 q) i.toNatClampNeg (nz v))))) H1 := hP
  have hD : va_D (AE E) ((wsE E σ).set q (E.2.1 q, .inl (E.2.2.1 1, n, .inl (upd (σ.1 q) i.toNatClampNeg (nz v))))) := hD
  rw [hw] at hP hD
  exact k _ r σ' h H1 locs1 ls ⟨hP, hD, hS, w.2.2.2⟩ hl
theorem rf_last (C : CX Γ cc own rm ret nL B) {q n : Nat} {i : Int32} {v : Int64} {K : PH → Option (α × PH)} (ha : isJ B q n) (d : decode cc pc = .ok (.lastore, 1)) (k : ∀ σ1 : PH, RF Γ Q (K σ1) σ1 (pc + 1) lv st) : RF Γ Q (wa n i (lt (sl σ q i.toNatClampNeg v) K)) σ pc lv (.long v :: .int i :: .ref ((gE Γ).2.1 q) :: st) := by
  obtain ⟨p, l, e, R, s, m, args, below, meth, c, nL', cs, ss, E⟩ := Γ
  obtain ⟨hx, hb, hml, hown, hts, hK, hZ, hr, hlk, rfl, rfl, hB, hcs⟩ := C
  intro r σ' h H locs ls w hl
  obtain ⟨hin, h⟩ := wa_some h
  have he : ent E (sl σ q i.toNatClampNeg v) q = .inl (E.2.2.1 2, n, .inr (.inl (vp_updL (σ.2.1 q) i.toNatClampNeg v))) := by
    rw [ent_sl, ha.2]
    rfl
  have hw : (wsE E σ).set q (E.2.1 q, .inl (E.2.2.1 2, n, .inr (.inl (vp_updL (σ.2.1 q) i.toNatClampNeg v)))) = wsE E (sl σ q i.toNatClampNeg v) := by
    rw [← he]
    exact wsE_upd (fun a h => by first | rfl | exact pset_o _ _ _ h) (fun a h => by first | rfl | exact pset_o _ _ _ h) (fun a h => rfl)
  refine va_last (tys := tyE E) hx hb hK w.1 w.2.1 w.2.2.1 q 2 (wsJ ha hB) rfl (inb_vp hin) d (fun H1 locs1 hP hD hS => ?_)
  have hP : va_P E.1 vwCl ((wsE E σ).set q (E.2.1 q, .inl (E.2.2.1 2, n, .inr (.inl (vp_updL (σ.2.1 q) i.toNatClampNeg v))))) H1 := hP
  have hD : va_D (AE E) ((wsE E σ).set q (E.2.1 q, .inl (E.2.2.1 2, n, .inr (.inl (vp_updL (σ.2.1 q) i.toNatClampNeg v))))) := hD
  rw [hw] at hP hD
  exact k _ r σ' h H1 locs1 ls ⟨hP, hD, hS, w.2.2.2⟩ hl
theorem rf_aldW (C : CX Γ cc own rm ret nL B) {q n b : Nat} {i : Int32} {K : Nat → Option (α × PH)} (ha : isW B q n b) (d : decode cc pc = .ok (.aaload, 1)) (k : ∀ v : Nat, v < b + n → RF Γ Q (K v) σ (pc + 1) lv (.ref ((gE Γ).2.1 (wId v 0)) :: st)) : RF Γ Q (ra n i (fun j => b + j) K) σ pc lv (.int i :: .ref ((gE Γ).2.1 q) :: st) := by
  obtain ⟨p, l, e, R, s, m, args, below, meth, c, nL', cs, ss, E⟩ := Γ
  obtain ⟨hx, hb, hml, hown, hts, hK, hZ, hr, hlk, rfl, rfl, hB, hcs⟩ := C
  intro r σ' h H locs ls w hl
  obtain ⟨hin, h⟩ := ra_some h
  exact va_aldq (tys := tyE E) hx hb hK w.1 q 3 (wsW ha hB) rfl (inb_vp hin) d (k _ (Nat.add_lt_add_left hin.2 b) r σ' h H locs ls w hl)
theorem rf_aldG (C : CX Γ cc own rm ret nL 148) {i : Int32} {K : Nat → Option (α × PH)} (d : decode cc pc = .ok (.aaload, 1)) (k : ∀ v : Nat, v < 6 → RF Γ Q (K v) σ (pc + 1) lv (.ref ((gE Γ).2.1 (gId v 0)) :: st)) : RF Γ Q (ra 4 i (σ.2.2 6) K) σ pc lv (.int i :: .ref ((gE Γ).2.1 6) :: st) := by
  obtain ⟨p, l, e, R, s, m, args, below, meth, c, nL', cs, ss, E⟩ := Γ
  obtain ⟨hx, hb, hml, hown, hts, hK, hZ, hr, hlk, rfl, rfl, hB, hcs⟩ := C
  intro r σ' h H locs ls w hl
  obtain ⟨hin, h⟩ := ra_some h
  exact va_aldq (tys := tyE E) hx hb hK w.1 6 4 (wsE_at (Nat.lt_of_lt_of_le (by decide) hB)) rfl (inb_vp hin) d (k _ (w.2.2.2 _ _) r σ' h H locs ls w hl)
theorem rf_astG (C : CX Γ cc own rm ret nL 148) {i : Int32} {v : Nat} {K : PH → Option (α × PH)} (h6 : v < 6) (d : decode cc pc = .ok (.aastore, 1)) (k : ∀ σ1 : PH, RF Γ Q (K σ1) σ1 (pc + 1) lv st) : RF Γ Q (wa 4 i (lt (sg σ 6 i.toNatClampNeg v) K)) σ pc lv (.ref ((gE Γ).2.1 (gId v 0)) :: .int i :: .ref ((gE Γ).2.1 6) :: st) := by
  obtain ⟨p, l, e, R, s, m, args, below, meth, c, nL', cs, ss, E⟩ := Γ
  obtain ⟨hx, hb, hml, hown, hts, hK, hZ, hr, hlk, rfl, rfl, hB, hcs⟩ := C
  intro r σ' h H locs ls w hl
  obtain ⟨hin, h⟩ := wa_some h
  have he : ent E (sg σ 6 i.toNatClampNeg v) 6 = .inl (E.2.2.1 4, 4, .inr (.inr (.inr (.inr (va_up (fun j => some (E.2.1 (gId (σ.2.2 6 j) 0))) i.toNatClampNeg (some (E.2.1 (gId v 0)))))))) := by
    rw [ent_sg]
    show Sum.inl (E.2.2.1 4, 4, Sum.inr (Sum.inr (Sum.inr (Sum.inr fun j => some (E.2.1 (gId (if j = i.toNatClampNeg then v else σ.2.2 6 j) 0)))))) = _
    congr 7
    funext j
    unfold va_up
    by_cases hj : j = i.toNatClampNeg
    · rw [if_pos hj, if_pos hj]
    · rw [if_neg hj, if_neg hj]
  have hw : (wsE E σ).set 6 (E.2.1 6, .inl (E.2.2.1 4, 4, .inr (.inr (.inr (.inr (va_up (fun j => some (E.2.1 (gId (σ.2.2 6 j) 0))) i.toNatClampNeg (some (E.2.1 (gId v 0))))))))) = wsE E (sg σ 6 i.toNatClampNeg v) := by
    rw [← he]
    exact wsE_upd (fun a h => rfl) (fun a h => rfl) (fun a h => pset_o _ _ _ h)
  refine va_astq (tys := tyE E) hx hb hK w.1 w.2.1 w.2.2.1 6 4 (gId v 0) 4 (r := (RX4, TX4, 7)) (wsE_at (Nat.lt_of_lt_of_le (by decide) hB)) rfl (vs := fl4 E v (σ.1 (gId v 0)) (σ.2.1 (gId v 0)) (σ.2.2 (gId v 0))) (wsO (oX4 h6) hB) rfl (inb_vp hin) d (fun H1 locs1 hP hD hS => ?_)
  have hP : va_P E.1 vwCl ((wsE E σ).set 6 (E.2.1 6, .inl (E.2.2.1 4, 4, .inr (.inr (.inr (.inr (va_up (fun j => some (E.2.1 (gId (σ.2.2 6 j) 0))) i.toNatClampNeg (some (E.2.1 (gId v 0)))))))))) H1 := hP
  have hD : va_D (AE E) ((wsE E σ).set 6 (E.2.1 6, .inl (E.2.2.1 4, 4, .inr (.inr (.inr (.inr (va_up (fun j => some (E.2.1 (gId (σ.2.2 6 j) 0))) i.toNatClampNeg (some (E.2.1 (gId v 0)))))))))) := hD
  rw [hw] at hP hD
  refine k _ r σ' h H1 locs1 ls ⟨hP, hD, hS, pset6 h6 w.2.2.2⟩ hl
theorem rf_alen (C : CX Γ cc own rm ret nL B) {q n tj : Nat} {v : Int32} {xa : GE → (Nat → Int32) → (Nat → Int64) → (Nat → Nat) → ClassId × vp_A} (hq : q < B) (he : ∀ E i l g, entA q E i l g = .inl (xa E i l g)) (ht : ∀ E i l g, ∃ ty, (tyE E)[tj]? = some ((xa E i l g).1, ty)) (hn : ∀ E i l g, (xa E i l g).2.1 = n) (hv : Int32.ofNat n = v) (d : decode cc pc = .ok (.arraylength, 1)) (k : RF Γ Q x σ (pc + 1) lv (.int v :: st)) : RF Γ Q x σ pc lv (.ref ((gE Γ).2.1 q) :: st) := by
  obtain ⟨p, l, e, R, s, m, args, below, meth, c, nL', cs, ss, E⟩ := Γ
  obtain ⟨hx, hb, hml, hown, hts, hK, hZ, hr, hlk, rfl, rfl, hB, hcs⟩ := C
  intro r σ' h H locs ls w hl
  obtain ⟨ty, hty⟩ := ht E (σ.1 q) (σ.2.1 q) (σ.2.2 q)
  exact va_alen (tys := tyE E) hx hb hK w.1 q tj (wsL (Nat.lt_of_lt_of_le hq hB) he) hty (by rw [hn]; exact hv) d (k r σ' h H locs ls w hl)
theorem rf_gets (C : CX Γ cc own rm ret nL B) {idx : Nat} (hl' : Cond.fieldLink own idx RX11 "WORD_LIMITS" "[I" ∈ wsL_law) (d : decode cc pc = .ok (.getstatic idx, 3)) (k : RF Γ Q x σ (pc + 3) lv (.ref (gE Γ).2.2.2.1 :: st)) : RF Γ Q x σ pc lv st := by
  obtain ⟨p, l, e, R, s, m, args, below, meth, c, nL', cs, ss, E⟩ := Γ
  obtain ⟨hx, hb, hml, hown, hts, hK, hZ, hr, hlk, rfl, rfl, hB, hcs⟩ := C
  exact fun r σ' h H locs ls w hl => va_gets hx hb hZ.1.1 w.2.2.1 hown (hts _ hl') (fun _ h => h) d (k r σ' h H locs ls w hl)
theorem rf_tald (C : CX Γ cc own rm ret nL B) {i : Int32} {K : Int32 → Option (α × PH)} (d : decode cc pc = .ok (.iaload, 1)) (k : ∀ v : Int32, RF Γ Q (K v) σ (pc + 1) lv (.int v :: st)) : RF Γ Q (ra 4 i lim K) σ pc lv (.int i :: .ref (gE Γ).2.2.2.1 :: st) := by
  obtain ⟨p, l, e, R, s, m, args, below, meth, c, nL', cs, ss, E⟩ := Γ
  obtain ⟨hx, hb, hml, hown, hts, hK, hZ, hr, hlk, rfl, rfl, hB, hcs⟩ := C
  intro r σ' h H locs ls w hl
  obtain ⟨hin, h⟩ := ra_some h
  exact va_ti hx hb hZ.1.2 w.2.2.1 (inb_vp hin) rfl d (k _ r σ' h H locs ls w hl)
theorem rf_getsN (C : CX Γ cc RX10 rm ret nL B) (d : decode cc pc = .ok (.getstatic 43, 3)) (k : RF Γ Q x σ (pc + 3) lv (.ref (gE Γ).2.2.2.1 :: st)) : RF Γ Q x σ pc lv st := by
  obtain ⟨p, l, e, R, s, m, args, below, meth, c, nL', cs, ss, E⟩ := Γ
  obtain ⟨hx, hb, hml, hown, hts, hK, hZ, hr, hlk, rfl, rfl, hB, hcs⟩ := C
  exact fun r σ' h H locs ls w hl => va_getsN hx hb hZ.1.1 w.2.2.1 hown (va_Nw.use rfl hZ.2.2) (fun _ h => h) d (k r σ' h H locs ls w hl)
theorem rf_callSNi (C : CX Γ cc own rm ret nL B) {y : MethodName} {cd : ByteArray} {ml n idx B' : Nat} {rt : Option FieldType} {rmc : Room} {av : GE → List Value} {z : Option (Int32 × PH)} {K : Int32 → PH → Option (α × PH)} (As : List Value) (hBB : B' ≤ B) (ct : Cti B' (gL Γ) y cd ml rt (rmOf rmc.frames rmc.locals) av σ z) (mf : MF y cd ml rt n) (mv : MS y) (lk : (own, idx, y) ∈ nestM) (hav : av (gE Γ) = As) (hn : As.length = n) {st0 : List Value} (hst : st0 = As.reverse ++ st) (hcat : (st.map fun v => v.category).sum ≤ 8) (hR : rmc.frames + 1 ≤ rm.frames ∧ 8 + (ml + 11) + rmc.locals ≤ rm.locals) (d : decode cc pc = .ok (.invokestatic idx, 3)) (k : ∀ (r1 : Int32) (σ1 : PH), RF Γ Q (K r1 σ1) σ1 (pc + 3) lv (.int r1 :: st)) : RF Γ Q (bd z K) σ pc lv st0 := by
  obtain ⟨p, l, e, R, s, m, args, below, meth, c, nL', cs, ss, E⟩ := Γ
  obtain ⟨hx, hb, hml, hown, hts, hK, hZ, hr, hlk, rfl, rfl, hB, hcs⟩ := C
  intro r σ' h H locs ls w hl
  obtain ⟨a, σ1, e1, h⟩ := bd_some h
  have hM := ct E a σ1 (Nat.le_trans hBB hB) e1
  rw [show av E = As from hav] at hM
  refine va_calli (va_runSN (host := RX11) (As := As) (rest := st) (n := n) ⟨hx, hb, hml, hown, hts⟩ hM ⟨va_cnB n hts (wsB_good mf.1) rfl rfl rfl (hZ.2.1 _ lk) (hts _ mf.2.1) mf.2.2 hR, hts _ mv, trivial⟩ ⟨WS.blind, fun U hU hW => ⟨rfl, WS.ofK w hK hZ hU hW⟩⟩ rfl hn hl.1 hst (lv_room hcat) d hcs) w.2.2.1 (fun _ _ h => h) (fun _ h => h) (fun r1 u t H1 locs1 ht hvm hw hB hz1 hk1 hS => ?_)
  obtain ⟨e2, e3⟩ := hw
  subst e2; subst e3
  exact k _ _ r σ' h H1 locs1 ls ⟨by rw [← ht]; exact hB.1, hB.2.1, hS, hB.2.2.1⟩ hl
theorem rf_mmax (C : CX Γ cc own rm ret nL B) {a b : Int32} {idx : Nat} (hl' : Cond.methodLink own idx Lib.Math.max.name ∈ wsL_law) (hf : 1 ≤ rm.frames) (hR : (st.map fun v => v.category).sum + 13 ≤ rm.locals) (hm : Cond.static Lib.Math.max.name ∈ wsL_law ∧ Cond.initialized "java/lang/Math" ∈ wsL_law ∧ Cond.code Lib.Math.max.name Lib.Math.max.code 2 (some .int) ∈ wsL_law) (d : decode cc pc = .ok (.invokestatic idx, 3)) (k : RF Γ Q x σ (pc + 3) lv (.int (if a < b then b else a) :: st)) : RF Γ Q x σ pc lv (.int b :: .int a :: st) := by
  obtain ⟨p, l, e, R, s, m, args, below, meth, c, nL', cs, ss, E⟩ := Γ
  obtain ⟨hx, hb, hml, hown, hts, hK, hZ, hr, hlk, rfl, rfl, hB, hcs⟩ := C
  exact fun r σ' h H locs ls w hl => va_mmax hx hb (hml.trans hl.1.symm) hown (hts _ hl') (hts _ hm.1) (hts _ hm.2.1) (hts _ hm.2.2) hf hR hcs.1 hcs.2 d (k r σ' h H locs ls w hl)
theorem rf_mmin (C : CX Γ cc own rm ret nL B) {a b : Int32} {idx : Nat} (hl' : Cond.methodLink own idx Lib.Math.min.name ∈ wsL_law) (hf : 1 ≤ rm.frames) (hR : (st.map fun v => v.category).sum + 13 ≤ rm.locals) (hm : Cond.static Lib.Math.min.name ∈ wsL_law ∧ Cond.initialized "java/lang/Math" ∈ wsL_law ∧ Cond.code Lib.Math.min.name Lib.Math.min.code 2 (some .int) ∈ wsL_law) (d : decode cc pc = .ok (.invokestatic idx, 3)) (k : RF Γ Q x σ (pc + 3) lv (.int (if b < a then b else a) :: st)) : RF Γ Q x σ pc lv (.int b :: .int a :: st) := by
  obtain ⟨p, l, e, R, s, m, args, below, meth, c, nL', cs, ss, E⟩ := Γ
  obtain ⟨hx, hb, hml, hown, hts, hK, hZ, hr, hlk, rfl, rfl, hB, hcs⟩ := C
  exact fun r σ' h H locs ls w hl => va_mmin hx hb (hml.trans hl.1.symm) hown (hts _ hl') (hts _ hm.1) (hts _ hm.2.1) (hts _ hm.2.2) hf hR hcs.1 hcs.2 d (k r σ' h H locs ls w hl)
theorem rf_mminl (C : CX Γ cc own rm ret nL B) {a b : Int64} {idx : Nat} (hl' : Cond.methodLink own idx Lib.MathLoose.min_long.x ∈ wsL_law) (hf : 1 ≤ rm.frames) (hR : (st.map fun v => v.category).sum + 15 ≤ rm.locals) (hm : Cond.static Lib.MathLoose.min_long.x ∈ wsL_law ∧ Cond.initialized "java/lang/Math" ∈ wsL_law ∧ Cond.code Lib.MathLoose.min_long.x Lib.MathLoose.min_long.code 4 (some .long) ∈ wsL_law) (d : decode cc pc = .ok (.invokestatic idx, 3)) (k : RF Γ Q x σ (pc + 3) lv (.long (if b < a then b else a) :: st)) : RF Γ Q x σ pc lv (.long b :: .long a :: st) := by
  obtain ⟨p, l, e, R, s, m, args, below, meth, c, nL', cs, ss, E⟩ := Γ
  obtain ⟨hx, hb, hml, hown, hts, hK, hZ, hr, hlk, rfl, rfl, hB, hcs⟩ := C
  exact fun r σ' h H locs ls w hl => va_mmin_long hx hb (hml.trans hl.1.symm) hown (hts _ hl') (hts _ hm.1) (hts _ hm.2.1) (hts _ hm.2.2) hf hR hcs.1 hcs.2 d (k r σ' h H locs ls w hl)
theorem rf_callVi (C : CX Γ cc own rm ret nL B) {y : MethodName} {cd : ByteArray} {ml n idx B' : Nat} {rt : Option FieldType} {rmc : Room} {av : GE → List Value} {z : Option (Int32 × PH)} {K : Int32 → PH → Option (α × PH)} (As : List Value) (hBB : B' ≤ B) (ct : Cti B' (gL Γ) y cd ml rt (rmOf rmc.frames rmc.locals) av σ z) (mf : MF y cd ml rt n) (mv : MV y) (lk : ML own idx y) {q ci N : Nat} {T : u_T} {F : GE → (Nat → Int32) → (Nat → Int64) → (Nat → Nat) → List Value} (hc : vwCl[ci]? = some (y.cls, T, N)) (ho : isO B q ci F) (hav : av (gE Γ) = .ref ((gE Γ).2.1 q) :: As) (hn : As.length = n) {st0 : List Value} (hst : st0 = As.reverse ++ .ref ((gE Γ).2.1 q) :: st) (hcat : (st.map fun v => v.category).sum ≤ 8) (hR : rmc.frames + 1 ≤ rm.frames ∧ 8 + (ml + 11) + rmc.locals ≤ rm.locals) (d : decode cc pc = .ok (.invokevirtual idx, 3)) (k : ∀ (r1 : Int32) (σ1 : PH), RF Γ Q (K r1 σ1) σ1 (pc + 3) lv (.int r1 :: st)) : RF Γ Q (bd z K) σ pc lv st0 := by
  obtain ⟨p, l, e, R, s, m, args, below, meth, c, nL', cs, ss, E⟩ := Γ
  obtain ⟨hx, hb, hml, hown, hts, hK, hZ, hr, hlk, rfl, rfl, hB, hcs⟩ := C
  intro r σ' h H locs ls w hl
  obtain ⟨a, σ1, e1, h⟩ := bd_some h
  have hM := ct E a σ1 (Nat.le_trans hBB hB) e1
  rw [show av E = .ref (E.2.1 q) :: As from hav] at hM
  refine va_calli (va_runV (C := y.cls) (As := As) (rest := st) (n := n) ⟨hx, hb, hml, hown, hts⟩ hM ⟨callB_of n hts (wsB_good mf.1) rfl rfl rfl (hts _ mf.2.1) (hts _ lk) mf.2.2 hR, hts _ mv.1, hts _ mv.2⟩ ⟨WS.blind, va_recv hK w.1 hc (wsO ho hB), fun U hU hW => ⟨rfl, WS.ofK w hK hZ hU hW⟩⟩ rfl hn hl.1 hst (lv_room hcat) d hcs) w.2.2.1 (fun _ _ h => h) (fun _ h => h) (fun r1 u t H1 locs1 ht hvm hw hB hz1 hk1 hS => ?_)
  obtain ⟨e2, e3⟩ := hw
  subst e2; subst e3
  exact k _ _ r σ' h H1 locs1 ls ⟨by rw [← ht]; exact hB.1, hB.2.1, hS, hB.2.2.1⟩ hl
theorem rf_callSi (C : CX Γ cc own rm ret nL B) {y : MethodName} {cd : ByteArray} {ml n idx B' : Nat} {rt : Option FieldType} {rmc : Room} {av : GE → List Value} {z : Option (Int32 × PH)} {K : Int32 → PH → Option (α × PH)} (As : List Value) (hBB : B' ≤ B) (ct : Cti B' (gL Γ) y cd ml rt (rmOf rmc.frames rmc.locals) av σ z) (mf : MF y cd ml rt n) (mv : MS y) (lk : ML own idx y) (hav : av (gE Γ) = As) (hn : As.length = n) {st0 : List Value} (hst : st0 = As.reverse ++ st) (hcat : (st.map fun v => v.category).sum ≤ 8) (hR : rmc.frames + 1 ≤ rm.frames ∧ 8 + (ml + 11) + rmc.locals ≤ rm.locals) (d : decode cc pc = .ok (.invokestatic idx, 3)) (k : ∀ (r1 : Int32) (σ1 : PH), RF Γ Q (K r1 σ1) σ1 (pc + 3) lv (.int r1 :: st)) : RF Γ Q (bd z K) σ pc lv st0 := by
  obtain ⟨p, l, e, R, s, m, args, below, meth, c, nL', cs, ss, E⟩ := Γ
  obtain ⟨hx, hb, hml, hown, hts, hK, hZ, hr, hlk, rfl, rfl, hB, hcs⟩ := C
  intro r σ' h H locs ls w hl
  obtain ⟨a, σ1, e1, h⟩ := bd_some h
  have hM := ct E a σ1 (Nat.le_trans hBB hB) e1
  rw [show av E = As from hav] at hM
  refine va_calli (va_runS (As := As) (rest := st) (n := n) ⟨hx, hb, hml, hown, hts⟩ hM ⟨callB_of n hts (wsB_good mf.1) rfl rfl rfl (hts _ mf.2.1) (hts _ lk) mf.2.2 hR, hts _ mv⟩ ⟨WS.blind, fun U hU hW => ⟨rfl, WS.ofK w hK hZ hU hW⟩⟩ rfl hn hl.1 hst (lv_room hcat) d hcs) w.2.2.1 (fun _ _ h => h) (fun _ h => h) (fun r1 u t H1 locs1 ht hvm hw hB hz1 hk1 hS => ?_)
  obtain ⟨e2, e3⟩ := hw
  subst e2; subst e3
  exact k _ _ r σ' h H1 locs1 ls ⟨by rw [← ht]; exact hB.1, hB.2.1, hS, hB.2.2.1⟩ hl
theorem rf_callVl (C : CX Γ cc own rm ret nL B) {y : MethodName} {cd : ByteArray} {ml n idx B' : Nat} {rt : Option FieldType} {rmc : Room} {av : GE → List Value} {z : Option (Int64 × PH)} {K : Int64 → PH → Option (α × PH)} (As : List Value) (hBB : B' ≤ B) (ct : Ctl B' (gL Γ) y cd ml rt (rmOf rmc.frames rmc.locals) av σ z) (mf : MF y cd ml rt n) (mv : MV y) (lk : ML own idx y) {q ci N : Nat} {T : u_T} {F : GE → (Nat → Int32) → (Nat → Int64) → (Nat → Nat) → List Value} (hc : vwCl[ci]? = some (y.cls, T, N)) (ho : isO B q ci F) (hav : av (gE Γ) = .ref ((gE Γ).2.1 q) :: As) (hn : As.length = n) {st0 : List Value} (hst : st0 = As.reverse ++ .ref ((gE Γ).2.1 q) :: st) (hcat : (st.map fun v => v.category).sum ≤ 8) (hR : rmc.frames + 1 ≤ rm.frames ∧ 8 + (ml + 11) + rmc.locals ≤ rm.locals) (d : decode cc pc = .ok (.invokevirtual idx, 3)) (k : ∀ (r1 : Int64) (σ1 : PH), RF Γ Q (K r1 σ1) σ1 (pc + 3) lv (.long r1 :: st)) : RF Γ Q (bd z K) σ pc lv st0 := by
  obtain ⟨p, l, e, R, s, m, args, below, meth, c, nL', cs, ss, E⟩ := Γ
  obtain ⟨hx, hb, hml, hown, hts, hK, hZ, hr, hlk, rfl, rfl, hB, hcs⟩ := C
  intro r σ' h H locs ls w hl
  obtain ⟨a, σ1, e1, h⟩ := bd_some h
  have hM := ct E a σ1 (Nat.le_trans hBB hB) e1
  rw [show av E = .ref (E.2.1 q) :: As from hav] at hM
  refine va_calll (va_runV (C := y.cls) (As := As) (rest := st) (n := n) ⟨hx, hb, hml, hown, hts⟩ hM ⟨callB_of n hts (wsB_good mf.1) rfl rfl rfl (hts _ mf.2.1) (hts _ lk) mf.2.2 hR, hts _ mv.1, hts _ mv.2⟩ ⟨WS.blind, va_recv hK w.1 hc (wsO ho hB), fun U hU hW => ⟨rfl, WS.ofK w hK hZ hU hW⟩⟩ rfl hn hl.1 hst (lv_room hcat) d hcs) w.2.2.1 (fun _ _ h => h) (fun _ h => h) (fun r1 u t H1 locs1 ht hvm hw hB hz1 hk1 hS => ?_)
  obtain ⟨e2, e3⟩ := hw
  subst e2; subst e3
  exact k _ _ r σ' h H1 locs1 ls ⟨by rw [← ht]; exact hB.1, hB.2.1, hS, hB.2.2.1⟩ hl
theorem rf_callSl (C : CX Γ cc own rm ret nL B) {y : MethodName} {cd : ByteArray} {ml n idx B' : Nat} {rt : Option FieldType} {rmc : Room} {av : GE → List Value} {z : Option (Int64 × PH)} {K : Int64 → PH → Option (α × PH)} (As : List Value) (hBB : B' ≤ B) (ct : Ctl B' (gL Γ) y cd ml rt (rmOf rmc.frames rmc.locals) av σ z) (mf : MF y cd ml rt n) (mv : MS y) (lk : ML own idx y) (hav : av (gE Γ) = As) (hn : As.length = n) {st0 : List Value} (hst : st0 = As.reverse ++ st) (hcat : (st.map fun v => v.category).sum ≤ 8) (hR : rmc.frames + 1 ≤ rm.frames ∧ 8 + (ml + 11) + rmc.locals ≤ rm.locals) (d : decode cc pc = .ok (.invokestatic idx, 3)) (k : ∀ (r1 : Int64) (σ1 : PH), RF Γ Q (K r1 σ1) σ1 (pc + 3) lv (.long r1 :: st)) : RF Γ Q (bd z K) σ pc lv st0 := by
  obtain ⟨p, l, e, R, s, m, args, below, meth, c, nL', cs, ss, E⟩ := Γ
  obtain ⟨hx, hb, hml, hown, hts, hK, hZ, hr, hlk, rfl, rfl, hB, hcs⟩ := C
  intro r σ' h H locs ls w hl
  obtain ⟨a, σ1, e1, h⟩ := bd_some h
  have hM := ct E a σ1 (Nat.le_trans hBB hB) e1
  rw [show av E = As from hav] at hM
  refine va_calll (va_runS (As := As) (rest := st) (n := n) ⟨hx, hb, hml, hown, hts⟩ hM ⟨callB_of n hts (wsB_good mf.1) rfl rfl rfl (hts _ mf.2.1) (hts _ lk) mf.2.2 hR, hts _ mv⟩ ⟨WS.blind, fun U hU hW => ⟨rfl, WS.ofK w hK hZ hU hW⟩⟩ rfl hn hl.1 hst (lv_room hcat) d hcs) w.2.2.1 (fun _ _ h => h) (fun _ h => h) (fun r1 u t H1 locs1 ht hvm hw hB hz1 hk1 hS => ?_)
  obtain ⟨e2, e3⟩ := hw
  subst e2; subst e3
  exact k _ _ r σ' h H1 locs1 ls ⟨by rw [← ht]; exact hB.1, hB.2.1, hS, hB.2.2.1⟩ hl
theorem rf_callVv (C : CX Γ cc own rm ret nL B) {y : MethodName} {cd : ByteArray} {ml n idx B' : Nat} {rt : Option FieldType} {rmc : Room} {av : GE → List Value} {z : Option (Unit × PH)} {K : Unit → PH → Option (α × PH)} (As : List Value) (hBB : B' ≤ B) (ct : Ctv B' (gL Γ) y cd ml rt (rmOf rmc.frames rmc.locals) av σ z) (mf : MF y cd ml rt n) (mv : MV y) (lk : ML own idx y) {q ci N : Nat} {T : u_T} {F : GE → (Nat → Int32) → (Nat → Int64) → (Nat → Nat) → List Value} (hc : vwCl[ci]? = some (y.cls, T, N)) (ho : isO B q ci F) (hav : av (gE Γ) = .ref ((gE Γ).2.1 q) :: As) (hn : As.length = n) {st0 : List Value} (hst : st0 = As.reverse ++ .ref ((gE Γ).2.1 q) :: st) (hcat : (st.map fun v => v.category).sum ≤ 8) (hR : rmc.frames + 1 ≤ rm.frames ∧ 8 + (ml + 11) + rmc.locals ≤ rm.locals) (d : decode cc pc = .ok (.invokevirtual idx, 3)) (k : ∀ (σ1 : PH), RF Γ Q (K () σ1) σ1 (pc + 3) lv (st)) : RF Γ Q (bd z K) σ pc lv st0 := by
  obtain ⟨p, l, e, R, s, m, args, below, meth, c, nL', cs, ss, E⟩ := Γ
  obtain ⟨hx, hb, hml, hown, hts, hK, hZ, hr, hlk, rfl, rfl, hB, hcs⟩ := C
  intro r σ' h H locs ls w hl
  obtain ⟨a, σ1, e1, h⟩ := bd_some h
  have hM := ct E a σ1 (Nat.le_trans hBB hB) e1
  rw [show av E = .ref (E.2.1 q) :: As from hav] at hM
  refine va_callv (va_runV (C := y.cls) (As := As) (rest := st) (n := n) ⟨hx, hb, hml, hown, hts⟩ hM ⟨callB_of n hts (wsB_good mf.1) rfl rfl rfl (hts _ mf.2.1) (hts _ lk) mf.2.2 hR, hts _ mv.1, hts _ mv.2⟩ ⟨WS.blind, va_recv hK w.1 hc (wsO ho hB), fun U hU hW => ⟨rfl, WS.ofK w hK hZ hU hW⟩⟩ rfl hn hl.1 hst (lv_room hcat) d hcs) w.2.2.1 (fun _ _ h => h) (fun _ h => h) (fun u t H1 locs1 ht hvm hw hB hz1 hk1 hS => ?_)
  subst hw
  exact k _ r σ' h H1 locs1 ls ⟨by rw [← ht]; exact hB.1, hB.2.1, hS, hB.2.2.1⟩ hl
theorem rf_callSv (C : CX Γ cc own rm ret nL B) {y : MethodName} {cd : ByteArray} {ml n idx B' : Nat} {rt : Option FieldType} {rmc : Room} {av : GE → List Value} {z : Option (Unit × PH)} {K : Unit → PH → Option (α × PH)} (As : List Value) (hBB : B' ≤ B) (ct : Ctv B' (gL Γ) y cd ml rt (rmOf rmc.frames rmc.locals) av σ z) (mf : MF y cd ml rt n) (mv : MS y) (lk : ML own idx y) (hav : av (gE Γ) = As) (hn : As.length = n) {st0 : List Value} (hst : st0 = As.reverse ++ st) (hcat : (st.map fun v => v.category).sum ≤ 8) (hR : rmc.frames + 1 ≤ rm.frames ∧ 8 + (ml + 11) + rmc.locals ≤ rm.locals) (d : decode cc pc = .ok (.invokestatic idx, 3)) (k : ∀ (σ1 : PH), RF Γ Q (K () σ1) σ1 (pc + 3) lv (st)) : RF Γ Q (bd z K) σ pc lv st0 := by
  obtain ⟨p, l, e, R, s, m, args, below, meth, c, nL', cs, ss, E⟩ := Γ
  obtain ⟨hx, hb, hml, hown, hts, hK, hZ, hr, hlk, rfl, rfl, hB, hcs⟩ := C
  intro r σ' h H locs ls w hl
  obtain ⟨a, σ1, e1, h⟩ := bd_some h
  have hM := ct E a σ1 (Nat.le_trans hBB hB) e1
  rw [show av E = As from hav] at hM
  refine va_callv (va_runS (As := As) (rest := st) (n := n) ⟨hx, hb, hml, hown, hts⟩ hM ⟨callB_of n hts (wsB_good mf.1) rfl rfl rfl (hts _ mf.2.1) (hts _ lk) mf.2.2 hR, hts _ mv⟩ ⟨WS.blind, fun U hU hW => ⟨rfl, WS.ofK w hK hZ hU hW⟩⟩ rfl hn hl.1 hst (lv_room hcat) d hcs) w.2.2.1 (fun _ _ h => h) (fun _ h => h) (fun u t H1 locs1 ht hvm hw hB hz1 hk1 hS => ?_)
  subst hw
  exact k _ r σ' h H1 locs1 ls ⟨by rw [← ht]; exact hB.1, hB.2.1, hS, hB.2.2.1⟩ hl
theorem rf_callVw (C : CX Γ cc own rm ret nL B) {y : MethodName} {cd : ByteArray} {ml n idx B' : Nat} {rt : Option FieldType} {rmc : Room} {av : GE → List Value} {z : Option (Nat × PH)} {K : Nat → PH → Option (α × PH)} (As : List Value) (hBB : B' ≤ B) (ct : Ctw B' (gL Γ) y cd ml rt (rmOf rmc.frames rmc.locals) av σ z) (mf : MF y cd ml rt n) (mv : MV y) (lk : ML own idx y) {q ci N : Nat} {T : u_T} {F : GE → (Nat → Int32) → (Nat → Int64) → (Nat → Nat) → List Value} (hc : vwCl[ci]? = some (y.cls, T, N)) (ho : isO B q ci F) (hav : av (gE Γ) = .ref ((gE Γ).2.1 q) :: As) (hn : As.length = n) {st0 : List Value} (hst : st0 = As.reverse ++ .ref ((gE Γ).2.1 q) :: st) (hcat : (st.map fun v => v.category).sum ≤ 8) (hR : rmc.frames + 1 ≤ rm.frames ∧ 8 + (ml + 11) + rmc.locals ≤ rm.locals) (d : decode cc pc = .ok (.invokevirtual idx, 3)) (k : ∀ (r1 : Nat) (σ1 : PH), r1 < 36 → RF Γ Q (K r1 σ1) σ1 (pc + 3) lv (.ref ((gE Γ).2.1 (wId r1 0)) :: st)) : RF Γ Q (bd z K) σ pc lv st0 := by
  obtain ⟨p, l, e, R, s, m, args, below, meth, c, nL', cs, ss, E⟩ := Γ
  obtain ⟨hx, hb, hml, hown, hts, hK, hZ, hr, hlk, rfl, rfl, hB, hcs⟩ := C
  intro r σ' h H locs ls w hl
  obtain ⟨a, σ1, e1, h⟩ := bd_some h
  have hM := ct E a σ1 (Nat.le_trans hBB hB) e1
  rw [show av E = .ref (E.2.1 q) :: As from hav] at hM
  refine va_callr (va_runV (C := y.cls) (As := As) (rest := st) (n := n) ⟨hx, hb, hml, hown, hts⟩ hM ⟨callB_of n hts (wsB_good mf.1) rfl rfl rfl (hts _ mf.2.1) (hts _ lk) mf.2.2 hR, hts _ mv.1, hts _ mv.2⟩ ⟨WS.blind, va_recv hK w.1 hc (wsO ho hB), fun U hU hW => ⟨rfl, WS.ofK w hK hZ hU hW⟩⟩ rfl hn hl.1 hst (lv_room hcat) d hcs) w.2.2.1 (fun _ _ h => h) (fun _ h => h) (fun u ra t H1 locs1 ht hvm hw hB hz1 hk1 hS => ?_)
  obtain ⟨e3, hbnd⟩ := hw
  subst e3
  obtain ⟨e4, hB⟩ := hB
  subst e4
  exact k _ _ hbnd r σ' h H1 locs1 ls ⟨by rw [← ht]; exact hB.1, hB.2.1, hS, hB.2.2.1⟩ hl
theorem rf_callSw (C : CX Γ cc own rm ret nL B) {y : MethodName} {cd : ByteArray} {ml n idx B' : Nat} {rt : Option FieldType} {rmc : Room} {av : GE → List Value} {z : Option (Nat × PH)} {K : Nat → PH → Option (α × PH)} (As : List Value) (hBB : B' ≤ B) (ct : Ctw B' (gL Γ) y cd ml rt (rmOf rmc.frames rmc.locals) av σ z) (mf : MF y cd ml rt n) (mv : MS y) (lk : ML own idx y) (hav : av (gE Γ) = As) (hn : As.length = n) {st0 : List Value} (hst : st0 = As.reverse ++ st) (hcat : (st.map fun v => v.category).sum ≤ 8) (hR : rmc.frames + 1 ≤ rm.frames ∧ 8 + (ml + 11) + rmc.locals ≤ rm.locals) (d : decode cc pc = .ok (.invokestatic idx, 3)) (k : ∀ (r1 : Nat) (σ1 : PH), r1 < 36 → RF Γ Q (K r1 σ1) σ1 (pc + 3) lv (.ref ((gE Γ).2.1 (wId r1 0)) :: st)) : RF Γ Q (bd z K) σ pc lv st0 := by
  obtain ⟨p, l, e, R, s, m, args, below, meth, c, nL', cs, ss, E⟩ := Γ
  obtain ⟨hx, hb, hml, hown, hts, hK, hZ, hr, hlk, rfl, rfl, hB, hcs⟩ := C
  intro r σ' h H locs ls w hl
  obtain ⟨a, σ1, e1, h⟩ := bd_some h
  have hM := ct E a σ1 (Nat.le_trans hBB hB) e1
  rw [show av E = As from hav] at hM
  refine va_callr (va_runS (As := As) (rest := st) (n := n) ⟨hx, hb, hml, hown, hts⟩ hM ⟨callB_of n hts (wsB_good mf.1) rfl rfl rfl (hts _ mf.2.1) (hts _ lk) mf.2.2 hR, hts _ mv⟩ ⟨WS.blind, fun U hU hW => ⟨rfl, WS.ofK w hK hZ hU hW⟩⟩ rfl hn hl.1 hst (lv_room hcat) d hcs) w.2.2.1 (fun _ _ h => h) (fun _ h => h) (fun u ra t H1 locs1 ht hvm hw hB hz1 hk1 hS => ?_)
  obtain ⟨e3, hbnd⟩ := hw
  subst e3
  obtain ⟨e4, hB⟩ := hB
  subst e4
  exact k _ _ hbnd r σ' h H1 locs1 ls ⟨by rw [← ht]; exact hB.1, hB.2.1, hS, hB.2.2.1⟩ hl
theorem rf_callVg (C : CX Γ cc own rm ret nL B) {y : MethodName} {cd : ByteArray} {ml n idx B' : Nat} {rt : Option FieldType} {rmc : Room} {av : GE → List Value} {z : Option (Nat × PH)} {K : Nat → PH → Option (α × PH)} (As : List Value) (hBB : B' ≤ B) (ct : Ctg B' (gL Γ) y cd ml rt (rmOf rmc.frames rmc.locals) av σ z) (mf : MF y cd ml rt n) (mv : MV y) (lk : ML own idx y) {q ci N : Nat} {T : u_T} {F : GE → (Nat → Int32) → (Nat → Int64) → (Nat → Nat) → List Value} (hc : vwCl[ci]? = some (y.cls, T, N)) (ho : isO B q ci F) (hav : av (gE Γ) = .ref ((gE Γ).2.1 q) :: As) (hn : As.length = n) {st0 : List Value} (hst : st0 = As.reverse ++ .ref ((gE Γ).2.1 q) :: st) (hcat : (st.map fun v => v.category).sum ≤ 8) (hR : rmc.frames + 1 ≤ rm.frames ∧ 8 + (ml + 11) + rmc.locals ≤ rm.locals) (d : decode cc pc = .ok (.invokevirtual idx, 3)) (k : ∀ (r1 : Nat) (σ1 : PH), r1 < 6 → RF Γ Q (K r1 σ1) σ1 (pc + 3) lv (.ref ((gE Γ).2.1 (gId r1 0)) :: st)) : RF Γ Q (bd z K) σ pc lv st0 := by
  obtain ⟨p, l, e, R, s, m, args, below, meth, c, nL', cs, ss, E⟩ := Γ
  obtain ⟨hx, hb, hml, hown, hts, hK, hZ, hr, hlk, rfl, rfl, hB, hcs⟩ := C
  intro r σ' h H locs ls w hl
  obtain ⟨a, σ1, e1, h⟩ := bd_some h
  have hM := ct E a σ1 (Nat.le_trans hBB hB) e1
  rw [show av E = .ref (E.2.1 q) :: As from hav] at hM
  refine va_callr (va_runV (C := y.cls) (As := As) (rest := st) (n := n) ⟨hx, hb, hml, hown, hts⟩ hM ⟨callB_of n hts (wsB_good mf.1) rfl rfl rfl (hts _ mf.2.1) (hts _ lk) mf.2.2 hR, hts _ mv.1, hts _ mv.2⟩ ⟨WS.blind, va_recv hK w.1 hc (wsO ho hB), fun U hU hW => ⟨rfl, WS.ofK w hK hZ hU hW⟩⟩ rfl hn hl.1 hst (lv_room hcat) d hcs) w.2.2.1 (fun _ _ h => h) (fun _ h => h) (fun u ra t H1 locs1 ht hvm hw hB hz1 hk1 hS => ?_)
  obtain ⟨e3, hbnd⟩ := hw
  subst e3
  obtain ⟨e4, hB⟩ := hB
  subst e4
  exact k _ _ hbnd r σ' h H1 locs1 ls ⟨by rw [← ht]; exact hB.1, hB.2.1, hS, hB.2.2.1⟩ hl
theorem rf_callSg (C : CX Γ cc own rm ret nL B) {y : MethodName} {cd : ByteArray} {ml n idx B' : Nat} {rt : Option FieldType} {rmc : Room} {av : GE → List Value} {z : Option (Nat × PH)} {K : Nat → PH → Option (α × PH)} (As : List Value) (hBB : B' ≤ B) (ct : Ctg B' (gL Γ) y cd ml rt (rmOf rmc.frames rmc.locals) av σ z) (mf : MF y cd ml rt n) (mv : MS y) (lk : ML own idx y) (hav : av (gE Γ) = As) (hn : As.length = n) {st0 : List Value} (hst : st0 = As.reverse ++ st) (hcat : (st.map fun v => v.category).sum ≤ 8) (hR : rmc.frames + 1 ≤ rm.frames ∧ 8 + (ml + 11) + rmc.locals ≤ rm.locals) (d : decode cc pc = .ok (.invokestatic idx, 3)) (k : ∀ (r1 : Nat) (σ1 : PH), r1 < 6 → RF Γ Q (K r1 σ1) σ1 (pc + 3) lv (.ref ((gE Γ).2.1 (gId r1 0)) :: st)) : RF Γ Q (bd z K) σ pc lv st0 := by
  obtain ⟨p, l, e, R, s, m, args, below, meth, c, nL', cs, ss, E⟩ := Γ
  obtain ⟨hx, hb, hml, hown, hts, hK, hZ, hr, hlk, rfl, rfl, hB, hcs⟩ := C
  intro r σ' h H locs ls w hl
  obtain ⟨a, σ1, e1, h⟩ := bd_some h
  have hM := ct E a σ1 (Nat.le_trans hBB hB) e1
  rw [show av E = As from hav] at hM
  refine va_callr (va_runS (As := As) (rest := st) (n := n) ⟨hx, hb, hml, hown, hts⟩ hM ⟨callB_of n hts (wsB_good mf.1) rfl rfl rfl (hts _ mf.2.1) (hts _ lk) mf.2.2 hR, hts _ mv⟩ ⟨WS.blind, fun U hU hW => ⟨rfl, WS.ofK w hK hZ hU hW⟩⟩ rfl hn hl.1 hst (lv_room hcat) d hcs) w.2.2.1 (fun _ _ h => h) (fun _ h => h) (fun u ra t H1 locs1 ht hvm hw hB hz1 hk1 hS => ?_)
  obtain ⟨e3, hbnd⟩ := hw
  subst e3
  obtain ⟨e4, hB⟩ := hB
  subst e4
  exact k _ _ hbnd r σ' h H1 locs1 ls ⟨by rw [← ht]; exact hB.1, hB.2.1, hS, hB.2.2.1⟩ hl
theorem rf_iret {v : Int32} (C : CX Γ cc own rm (some .int) nL B) (d : decode cc pc = .ok (.ireturn, 1)) : RF Γ (Qi Γ) (some (v, σ)) σ pc lv [.int v] := by
  obtain ⟨p, l, e, R, s, m, args, below, meth, c, nL', cs, ss, E⟩ := Γ
  obtain ⟨hx, hb, hml, hown, hts, hK, hZ, hr, hlk, rfl, rfl, hB, hcs⟩ := C
  intro r σ' h H locs ls w hl
  cases h
  exact W.iret hx hb hr (fun t ht hW => ⟨⟨v, σ, rfl, ⟨rfl, rfl⟩, WS.ofK w hK hZ ht hW⟩, w.2.2.1.F ht⟩) w.2.2.1.2.2 d hlk
theorem rf_zret {v : Int32} (C : CX Γ cc own rm (some .boolean) nL B) (hn : narrow .boolean (.int v) = .int v) (d : decode cc pc = .ok (.ireturn, 1)) : RF Γ (Qi Γ) (some (v, σ)) σ pc lv [.int v] := by
  obtain ⟨p, l, e, R, s, m, args, below, meth, c, nL', cs, ss, E⟩ := Γ
  obtain ⟨hx, hb, hml, hown, hts, hK, hZ, hr, hlk, rfl, rfl, hB, hcs⟩ := C
  intro r σ' h H locs ls w hl
  cases h
  exact W.zret hx hb hr hn (fun t ht hW => ⟨⟨v, σ, rfl, ⟨rfl, rfl⟩, WS.ofK w hK hZ ht hW⟩, w.2.2.1.F ht⟩) w.2.2.1.2.2 d hlk
theorem rf_lret {v : Int64} (C : CX Γ cc own rm (some .long) nL B) (d : decode cc pc = .ok (.lreturn, 1)) : RF Γ (Ql Γ) (some (v, σ)) σ pc lv [.long v] := by
  obtain ⟨p, l, e, R, s, m, args, below, meth, c, nL', cs, ss, E⟩ := Γ
  obtain ⟨hx, hb, hml, hown, hts, hK, hZ, hr, hlk, rfl, rfl, hB, hcs⟩ := C
  intro r σ' h H locs ls w hl
  cases h
  exact W.lret hx hb hr (fun t ht hW => ⟨⟨v, σ, rfl, ⟨rfl, rfl⟩, WS.ofK w hK hZ ht hW⟩, w.2.2.1.F ht⟩) w.2.2.1.2.2 d hlk
def rz (v : Int32) (σ : PH) : Option (Int32 × PH) := if v = 0 ∨ v = 1 then some (v, σ) else none
theorem nar01 {v : Int32} (h : v = 0 ∨ v = 1) : narrow .boolean (.int v) = .int v := by rcases h with rfl | rfl <;> rfl
theorem rf_zretv {v : Int32} (C : CX Γ cc own rm (some .boolean) nL B) (d : decode cc pc = .ok (.ireturn, 1)) : RF Γ (Qi Γ) (rz v σ) σ pc lv [.int v] := by
  unfold rz
  by_cases h : v = 0 ∨ v = 1
  · rw [if_pos h]; exact rf_zret C (nar01 h) d
  · rw [if_neg h]; exact RF.none
theorem rf_vret (C : CX Γ cc own rm none nL B) (d : decode cc pc = .ok (.return_, 1)) : RF Γ (Qv Γ) (some ((), σ)) σ pc lv [] := by
  obtain ⟨p, l, e, R, s, m, args, below, meth, c, nL', cs, ss, E⟩ := Γ
  obtain ⟨hx, hb, hml, hown, hts, hK, hZ, hr, hlk, rfl, rfl, hB, hcs⟩ := C
  intro r σ' h H locs ls w hl
  cases h
  exact W.vret hx hb hr (fun t ht hW => ⟨⟨σ, rfl, rfl, WS.ofK w hK hZ ht hW⟩, w.2.2.1.F ht⟩) w.2.2.1.2.2 d hlk
theorem rf_wret {v : Nat} {cn : String} (C : CX Γ cc own rm (some (.object cn)) nL B) (hv : v < 36) (d : decode cc pc = .ok (.areturn, 1)) : RF Γ (Qw Γ) (some (v, σ)) σ pc lv [.ref ((gE Γ).2.1 (wId v 0))] := by
  obtain ⟨p, l, e, R, s, m, args, below, meth, c, nL', cs, ss, E⟩ := Γ
  obtain ⟨hx, hb, hml, hown, hts, hK, hZ, hr, hlk, rfl, rfl, hB, hcs⟩ := C
  intro r σ' h H locs ls w hl
  cases h
  exact W.aret hx hb hr (Or.inl ⟨_, rfl⟩) (Or.inr ⟨_, rfl⟩) (fun t ht hW => ⟨⟨σ, _, rfl, ⟨rfl, hv⟩, rfl, WS.ofK w hK hZ ht hW⟩, w.2.2.1.F ht⟩) w.2.2.1.2.2 d hlk
theorem rf_gret {v : Nat} {cn : String} (C : CX Γ cc own rm (some (.object cn)) nL B) (hv : v < 6) (d : decode cc pc = .ok (.areturn, 1)) : RF Γ (Qg Γ) (some (v, σ)) σ pc lv [.ref ((gE Γ).2.1 (gId v 0))] := by
  obtain ⟨p, l, e, R, s, m, args, below, meth, c, nL', cs, ss, E⟩ := Γ
  obtain ⟨hx, hb, hml, hown, hts, hK, hZ, hr, hlk, rfl, rfl, hB, hcs⟩ := C
  intro r σ' h H locs ls w hl
  cases h
  exact W.aret hx hb hr (Or.inl ⟨_, rfl⟩) (Or.inr ⟨_, rfl⟩) (fun t ht hW => ⟨⟨σ, _, rfl, ⟨rfl, hv⟩, rfl, WS.ofK w hK hZ ht hW⟩, w.2.2.1.F ht⟩) w.2.2.1.2.2 d hlk
theorem rf_swOut (C : CX Γ cc own rm ret nL B) {a : Int32} {dflt lo hi : Int} {offs : Array Int} {len : Nat} (tgt : Nat) (d : decode cc pc = .ok (.tableswitch dflt lo hi offs, len)) (hh : a.toInt < lo ∨ hi < a.toInt) (ht : (pc : Int) + dflt = (tgt : Int)) (k : RF Γ Q x σ tgt lv st) : RF Γ Q x σ pc lv (.int a :: st) := by
  obtain ⟨p, l, e, R, s, m, args, below, meth, c, nL', cs, ss, E⟩ := Γ
  obtain ⟨hx, hb, hml, hown, hts, hK, hZ, hr, hlk, rfl, rfl, hB, hcs⟩ := C
  exact fun r σ' h H locs ls w hl => lv_tableOut hx hb d hh ht (k r σ' h H locs ls w hl)
theorem rf_swIn (C : CX Γ cc own rm ret nL B) {a : Int32} {dflt lo hi off : Int} {offs : Array Int} {len : Nat} (tgt : Nat) (d : decode cc pc = .ok (.tableswitch dflt lo hi offs, len)) (h1 : ¬ a.toInt < lo) (h2 : ¬ hi < a.toInt) (ho : offs[(a.toInt - lo).toNat]? = some off) (ht : (pc : Int) + off = (tgt : Int)) (k : RF Γ Q x σ tgt lv st) : RF Γ Q x σ pc lv (.int a :: st) := by
  obtain ⟨p, l, e, R, s, m, args, below, meth, c, nL', cs, ss, E⟩ := Γ
  obtain ⟨hx, hb, hml, hown, hts, hK, hZ, hr, hlk, rfl, rfl, hB, hcs⟩ := C
  exact fun r σ' h H locs ls w hl => lv_tableIn hx hb d h1 h2 ho ht (k r σ' h H locs ls w hl)
theorem rf_ite {cnd : Prop} [Decidable cnd] {y z : Option (α × PH)} (kt : cnd → RF Γ Q y σ pc lv st) (kf : ¬ cnd → RF Γ Q z σ pc lv st) : RF Γ Q (if cnd then y else z) σ pc lv st := by
  by_cases h : cnd
  · rw [if_pos h]; exact kt h
  · rw [if_neg h]; exact kf h
theorem sw_out {a : Int32} {lo hi : Int} (h : ∀ k : Int32, lo ≤ k.toInt → k.toInt ≤ hi → ¬ a = k) : a.toInt < lo ∨ hi < a.toInt := by
  rcases Int.lt_or_le a.toInt lo with q | q
  · exact Or.inl q
  · rcases Int.lt_or_le hi a.toInt with q2 | q2
    · exact Or.inr q2
    · exact absurd rfl (h a q q2)
end RFS
def loo1 {A0 β : Type} (body : (A0 → Option β) → A0 → Option β) : Nat → A0 → Option β
  | 0 => fun _ => none
  | n + 1 => body (loo1 body n)
theorem rf_loo1 {A0 α : Type} {Γ : CT} {Q : α → PH → State → Prop} {pc : Nat} {st : List Value} {body : (A0 → Option (α × PH)) → A0 → Option (α × PH)} (I : A0 → Prop) (hp : A0 → PH) (lv : A0 → List (Nat × Value))
    (k : ∀ rec : A0 → Option (α × PH), (∀ (a0 : A0), I a0 → RF Γ Q (rec a0) (hp a0) pc (lv a0) st) → ∀ (a0 : A0), I a0 → RF Γ Q (body rec a0) (hp a0) pc (lv a0) st) :
    ∀ (n : Nat) (a0 : A0), I a0 → RF Γ Q (loo1 body n a0) (hp a0) pc (lv a0) st := by
  intro n
  induction n with
  | zero => intro a0 _; exact RF.none
  | succ n ih => exact k _ ih
def loo2 {A0 A1 β : Type} (body : (A0 → A1 → Option β) → A0 → A1 → Option β) : Nat → A0 → A1 → Option β
  | 0 => fun _ _ => none
  | n + 1 => body (loo2 body n)
theorem rf_loo2 {A0 A1 α : Type} {Γ : CT} {Q : α → PH → State → Prop} {pc : Nat} {st : List Value} {body : (A0 → A1 → Option (α × PH)) → A0 → A1 → Option (α × PH)} (I : A0 → A1 → Prop) (hp : A0 → A1 → PH) (lv : A0 → A1 → List (Nat × Value))
    (k : ∀ rec : A0 → A1 → Option (α × PH), (∀ (a0 : A0) (a1 : A1), I a0 a1 → RF Γ Q (rec a0 a1) (hp a0 a1) pc (lv a0 a1) st) → ∀ (a0 : A0) (a1 : A1), I a0 a1 → RF Γ Q (body rec a0 a1) (hp a0 a1) pc (lv a0 a1) st) :
    ∀ (n : Nat) (a0 : A0) (a1 : A1), I a0 a1 → RF Γ Q (loo2 body n a0 a1) (hp a0 a1) pc (lv a0 a1) st := by
  intro n
  induction n with
  | zero => intro a0 a1 _; exact RF.none
  | succ n ih => exact k _ ih
def loo3 {A0 A1 A2 β : Type} (body : (A0 → A1 → A2 → Option β) → A0 → A1 → A2 → Option β) : Nat → A0 → A1 → A2 → Option β
  | 0 => fun _ _ _ => none
  | n + 1 => body (loo3 body n)
theorem rf_loo3 {A0 A1 A2 α : Type} {Γ : CT} {Q : α → PH → State → Prop} {pc : Nat} {st : List Value} {body : (A0 → A1 → A2 → Option (α × PH)) → A0 → A1 → A2 → Option (α × PH)} (I : A0 → A1 → A2 → Prop) (hp : A0 → A1 → A2 → PH) (lv : A0 → A1 → A2 → List (Nat × Value))
    (k : ∀ rec : A0 → A1 → A2 → Option (α × PH), (∀ (a0 : A0) (a1 : A1) (a2 : A2), I a0 a1 a2 → RF Γ Q (rec a0 a1 a2) (hp a0 a1 a2) pc (lv a0 a1 a2) st) → ∀ (a0 : A0) (a1 : A1) (a2 : A2), I a0 a1 a2 → RF Γ Q (body rec a0 a1 a2) (hp a0 a1 a2) pc (lv a0 a1 a2) st) :
    ∀ (n : Nat) (a0 : A0) (a1 : A1) (a2 : A2), I a0 a1 a2 → RF Γ Q (loo3 body n a0 a1 a2) (hp a0 a1 a2) pc (lv a0 a1 a2) st := by
  intro n
  induction n with
  | zero => intro a0 a1 a2 _; exact RF.none
  | succ n ih => exact k _ ih
def loo4 {A0 A1 A2 A3 β : Type} (body : (A0 → A1 → A2 → A3 → Option β) → A0 → A1 → A2 → A3 → Option β) : Nat → A0 → A1 → A2 → A3 → Option β
  | 0 => fun _ _ _ _ => none
  | n + 1 => body (loo4 body n)
theorem rf_loo4 {A0 A1 A2 A3 α : Type} {Γ : CT} {Q : α → PH → State → Prop} {pc : Nat} {st : List Value} {body : (A0 → A1 → A2 → A3 → Option (α × PH)) → A0 → A1 → A2 → A3 → Option (α × PH)} (I : A0 → A1 → A2 → A3 → Prop) (hp : A0 → A1 → A2 → A3 → PH) (lv : A0 → A1 → A2 → A3 → List (Nat × Value))
    (k : ∀ rec : A0 → A1 → A2 → A3 → Option (α × PH), (∀ (a0 : A0) (a1 : A1) (a2 : A2) (a3 : A3), I a0 a1 a2 a3 → RF Γ Q (rec a0 a1 a2 a3) (hp a0 a1 a2 a3) pc (lv a0 a1 a2 a3) st) → ∀ (a0 : A0) (a1 : A1) (a2 : A2) (a3 : A3), I a0 a1 a2 a3 → RF Γ Q (body rec a0 a1 a2 a3) (hp a0 a1 a2 a3) pc (lv a0 a1 a2 a3) st) :
    ∀ (n : Nat) (a0 : A0) (a1 : A1) (a2 : A2) (a3 : A3), I a0 a1 a2 a3 → RF Γ Q (loo4 body n a0 a1 a2 a3) (hp a0 a1 a2 a3) pc (lv a0 a1 a2 a3) st := by
  intro n
  induction n with
  | zero => intro a0 a1 a2 a3 _; exact RF.none
  | succ n ih => exact k _ ih
def loo5 {A0 A1 A2 A3 A4 β : Type} (body : (A0 → A1 → A2 → A3 → A4 → Option β) → A0 → A1 → A2 → A3 → A4 → Option β) : Nat → A0 → A1 → A2 → A3 → A4 → Option β
  | 0 => fun _ _ _ _ _ => none
  | n + 1 => body (loo5 body n)
theorem rf_loo5 {A0 A1 A2 A3 A4 α : Type} {Γ : CT} {Q : α → PH → State → Prop} {pc : Nat} {st : List Value} {body : (A0 → A1 → A2 → A3 → A4 → Option (α × PH)) → A0 → A1 → A2 → A3 → A4 → Option (α × PH)} (I : A0 → A1 → A2 → A3 → A4 → Prop) (hp : A0 → A1 → A2 → A3 → A4 → PH) (lv : A0 → A1 → A2 → A3 → A4 → List (Nat × Value))
    (k : ∀ rec : A0 → A1 → A2 → A3 → A4 → Option (α × PH), (∀ (a0 : A0) (a1 : A1) (a2 : A2) (a3 : A3) (a4 : A4), I a0 a1 a2 a3 a4 → RF Γ Q (rec a0 a1 a2 a3 a4) (hp a0 a1 a2 a3 a4) pc (lv a0 a1 a2 a3 a4) st) → ∀ (a0 : A0) (a1 : A1) (a2 : A2) (a3 : A3) (a4 : A4), I a0 a1 a2 a3 a4 → RF Γ Q (body rec a0 a1 a2 a3 a4) (hp a0 a1 a2 a3 a4) pc (lv a0 a1 a2 a3 a4) st) :
    ∀ (n : Nat) (a0 : A0) (a1 : A1) (a2 : A2) (a3 : A3) (a4 : A4), I a0 a1 a2 a3 a4 → RF Γ Q (loo5 body n a0 a1 a2 a3 a4) (hp a0 a1 a2 a3 a4) pc (lv a0 a1 a2 a3 a4) st := by
  intro n
  induction n with
  | zero => intro a0 a1 a2 a3 a4 _; exact RF.none
  | succ n ih => exact k _ ih
def loo6 {A0 A1 A2 A3 A4 A5 β : Type} (body : (A0 → A1 → A2 → A3 → A4 → A5 → Option β) → A0 → A1 → A2 → A3 → A4 → A5 → Option β) : Nat → A0 → A1 → A2 → A3 → A4 → A5 → Option β
  | 0 => fun _ _ _ _ _ _ => none
  | n + 1 => body (loo6 body n)
theorem rf_loo6 {A0 A1 A2 A3 A4 A5 α : Type} {Γ : CT} {Q : α → PH → State → Prop} {pc : Nat} {st : List Value} {body : (A0 → A1 → A2 → A3 → A4 → A5 → Option (α × PH)) → A0 → A1 → A2 → A3 → A4 → A5 → Option (α × PH)} (I : A0 → A1 → A2 → A3 → A4 → A5 → Prop) (hp : A0 → A1 → A2 → A3 → A4 → A5 → PH) (lv : A0 → A1 → A2 → A3 → A4 → A5 → List (Nat × Value))
    (k : ∀ rec : A0 → A1 → A2 → A3 → A4 → A5 → Option (α × PH), (∀ (a0 : A0) (a1 : A1) (a2 : A2) (a3 : A3) (a4 : A4) (a5 : A5), I a0 a1 a2 a3 a4 a5 → RF Γ Q (rec a0 a1 a2 a3 a4 a5) (hp a0 a1 a2 a3 a4 a5) pc (lv a0 a1 a2 a3 a4 a5) st) → ∀ (a0 : A0) (a1 : A1) (a2 : A2) (a3 : A3) (a4 : A4) (a5 : A5), I a0 a1 a2 a3 a4 a5 → RF Γ Q (body rec a0 a1 a2 a3 a4 a5) (hp a0 a1 a2 a3 a4 a5) pc (lv a0 a1 a2 a3 a4 a5) st) :
    ∀ (n : Nat) (a0 : A0) (a1 : A1) (a2 : A2) (a3 : A3) (a4 : A4) (a5 : A5), I a0 a1 a2 a3 a4 a5 → RF Γ Q (loo6 body n a0 a1 a2 a3 a4 a5) (hp a0 a1 a2 a3 a4 a5) pc (lv a0 a1 a2 a3 a4 a5) st := by
  intro n
  induction n with
  | zero => intro a0 a1 a2 a3 a4 a5 _; exact RF.none
  | succ n ih => exact k _ ih
def loo7 {A0 A1 A2 A3 A4 A5 A6 β : Type} (body : (A0 → A1 → A2 → A3 → A4 → A5 → A6 → Option β) → A0 → A1 → A2 → A3 → A4 → A5 → A6 → Option β) : Nat → A0 → A1 → A2 → A3 → A4 → A5 → A6 → Option β
  | 0 => fun _ _ _ _ _ _ _ => none
  | n + 1 => body (loo7 body n)
theorem rf_loo7 {A0 A1 A2 A3 A4 A5 A6 α : Type} {Γ : CT} {Q : α → PH → State → Prop} {pc : Nat} {st : List Value} {body : (A0 → A1 → A2 → A3 → A4 → A5 → A6 → Option (α × PH)) → A0 → A1 → A2 → A3 → A4 → A5 → A6 → Option (α × PH)} (I : A0 → A1 → A2 → A3 → A4 → A5 → A6 → Prop) (hp : A0 → A1 → A2 → A3 → A4 → A5 → A6 → PH) (lv : A0 → A1 → A2 → A3 → A4 → A5 → A6 → List (Nat × Value))
    (k : ∀ rec : A0 → A1 → A2 → A3 → A4 → A5 → A6 → Option (α × PH), (∀ (a0 : A0) (a1 : A1) (a2 : A2) (a3 : A3) (a4 : A4) (a5 : A5) (a6 : A6), I a0 a1 a2 a3 a4 a5 a6 → RF Γ Q (rec a0 a1 a2 a3 a4 a5 a6) (hp a0 a1 a2 a3 a4 a5 a6) pc (lv a0 a1 a2 a3 a4 a5 a6) st) → ∀ (a0 : A0) (a1 : A1) (a2 : A2) (a3 : A3) (a4 : A4) (a5 : A5) (a6 : A6), I a0 a1 a2 a3 a4 a5 a6 → RF Γ Q (body rec a0 a1 a2 a3 a4 a5 a6) (hp a0 a1 a2 a3 a4 a5 a6) pc (lv a0 a1 a2 a3 a4 a5 a6) st) :
    ∀ (n : Nat) (a0 : A0) (a1 : A1) (a2 : A2) (a3 : A3) (a4 : A4) (a5 : A5) (a6 : A6), I a0 a1 a2 a3 a4 a5 a6 → RF Γ Q (loo7 body n a0 a1 a2 a3 a4 a5 a6) (hp a0 a1 a2 a3 a4 a5 a6) pc (lv a0 a1 a2 a3 a4 a5 a6) st := by
  intro n
  induction n with
  | zero => intro a0 a1 a2 a3 a4 a5 a6 _; exact RF.none
  | succ n ih => exact k _ ih
def loo8 {A0 A1 A2 A3 A4 A5 A6 A7 β : Type} (body : (A0 → A1 → A2 → A3 → A4 → A5 → A6 → A7 → Option β) → A0 → A1 → A2 → A3 → A4 → A5 → A6 → A7 → Option β) : Nat → A0 → A1 → A2 → A3 → A4 → A5 → A6 → A7 → Option β
  | 0 => fun _ _ _ _ _ _ _ _ => none
  | n + 1 => body (loo8 body n)
theorem rf_loo8 {A0 A1 A2 A3 A4 A5 A6 A7 α : Type} {Γ : CT} {Q : α → PH → State → Prop} {pc : Nat} {st : List Value} {body : (A0 → A1 → A2 → A3 → A4 → A5 → A6 → A7 → Option (α × PH)) → A0 → A1 → A2 → A3 → A4 → A5 → A6 → A7 → Option (α × PH)} (I : A0 → A1 → A2 → A3 → A4 → A5 → A6 → A7 → Prop) (hp : A0 → A1 → A2 → A3 → A4 → A5 → A6 → A7 → PH) (lv : A0 → A1 → A2 → A3 → A4 → A5 → A6 → A7 → List (Nat × Value))
    (k : ∀ rec : A0 → A1 → A2 → A3 → A4 → A5 → A6 → A7 → Option (α × PH), (∀ (a0 : A0) (a1 : A1) (a2 : A2) (a3 : A3) (a4 : A4) (a5 : A5) (a6 : A6) (a7 : A7), I a0 a1 a2 a3 a4 a5 a6 a7 → RF Γ Q (rec a0 a1 a2 a3 a4 a5 a6 a7) (hp a0 a1 a2 a3 a4 a5 a6 a7) pc (lv a0 a1 a2 a3 a4 a5 a6 a7) st) → ∀ (a0 : A0) (a1 : A1) (a2 : A2) (a3 : A3) (a4 : A4) (a5 : A5) (a6 : A6) (a7 : A7), I a0 a1 a2 a3 a4 a5 a6 a7 → RF Γ Q (body rec a0 a1 a2 a3 a4 a5 a6 a7) (hp a0 a1 a2 a3 a4 a5 a6 a7) pc (lv a0 a1 a2 a3 a4 a5 a6 a7) st) :
    ∀ (n : Nat) (a0 : A0) (a1 : A1) (a2 : A2) (a3 : A3) (a4 : A4) (a5 : A5) (a6 : A6) (a7 : A7), I a0 a1 a2 a3 a4 a5 a6 a7 → RF Γ Q (loo8 body n a0 a1 a2 a3 a4 a5 a6 a7) (hp a0 a1 a2 a3 a4 a5 a6 a7) pc (lv a0 a1 a2 a3 a4 a5 a6 a7) st := by
  intro n
  induction n with
  | zero => intro a0 a1 a2 a3 a4 a5 a6 a7 _; exact RF.none
  | succ n ih => exact k _ ih
def loo9 {A0 A1 A2 A3 A4 A5 A6 A7 A8 β : Type} (body : (A0 → A1 → A2 → A3 → A4 → A5 → A6 → A7 → A8 → Option β) → A0 → A1 → A2 → A3 → A4 → A5 → A6 → A7 → A8 → Option β) : Nat → A0 → A1 → A2 → A3 → A4 → A5 → A6 → A7 → A8 → Option β
  | 0 => fun _ _ _ _ _ _ _ _ _ => none
  | n + 1 => body (loo9 body n)
theorem rf_loo9 {A0 A1 A2 A3 A4 A5 A6 A7 A8 α : Type} {Γ : CT} {Q : α → PH → State → Prop} {pc : Nat} {st : List Value} {body : (A0 → A1 → A2 → A3 → A4 → A5 → A6 → A7 → A8 → Option (α × PH)) → A0 → A1 → A2 → A3 → A4 → A5 → A6 → A7 → A8 → Option (α × PH)} (I : A0 → A1 → A2 → A3 → A4 → A5 → A6 → A7 → A8 → Prop) (hp : A0 → A1 → A2 → A3 → A4 → A5 → A6 → A7 → A8 → PH) (lv : A0 → A1 → A2 → A3 → A4 → A5 → A6 → A7 → A8 → List (Nat × Value))
    (k : ∀ rec : A0 → A1 → A2 → A3 → A4 → A5 → A6 → A7 → A8 → Option (α × PH), (∀ (a0 : A0) (a1 : A1) (a2 : A2) (a3 : A3) (a4 : A4) (a5 : A5) (a6 : A6) (a7 : A7) (a8 : A8), I a0 a1 a2 a3 a4 a5 a6 a7 a8 → RF Γ Q (rec a0 a1 a2 a3 a4 a5 a6 a7 a8) (hp a0 a1 a2 a3 a4 a5 a6 a7 a8) pc (lv a0 a1 a2 a3 a4 a5 a6 a7 a8) st) → ∀ (a0 : A0) (a1 : A1) (a2 : A2) (a3 : A3) (a4 : A4) (a5 : A5) (a6 : A6) (a7 : A7) (a8 : A8), I a0 a1 a2 a3 a4 a5 a6 a7 a8 → RF Γ Q (body rec a0 a1 a2 a3 a4 a5 a6 a7 a8) (hp a0 a1 a2 a3 a4 a5 a6 a7 a8) pc (lv a0 a1 a2 a3 a4 a5 a6 a7 a8) st) :
    ∀ (n : Nat) (a0 : A0) (a1 : A1) (a2 : A2) (a3 : A3) (a4 : A4) (a5 : A5) (a6 : A6) (a7 : A7) (a8 : A8), I a0 a1 a2 a3 a4 a5 a6 a7 a8 → RF Γ Q (loo9 body n a0 a1 a2 a3 a4 a5 a6 a7 a8) (hp a0 a1 a2 a3 a4 a5 a6 a7 a8) pc (lv a0 a1 a2 a3 a4 a5 a6 a7 a8) st := by
  intro n
  induction n with
  | zero => intro a0 a1 a2 a3 a4 a5 a6 a7 a8 _; exact RF.none
  | succ n ih => exact k _ ih
theorem rf_jn1 {A0 α : Type} {Γ : CT} {Q : α → PH → State → Prop} {σ : PH} {pc : Nat} {lv : List (Nat × Value)} {st : List Value} {rest : A0 → Option (α × PH)} {body : (A0 → Option (α × PH)) → Option (α × PH)} (I : A0 → Prop) (hp : A0 → PH) (lvJ : A0 → List (Nat × Value)) (stJ : A0 → List Value) (pcJ : Nat)
    (k1 : ∀ (a0 : A0), I a0 → RF Γ Q (rest a0) (hp a0) pcJ (lvJ a0) (stJ a0)) (k2 : ∀ j : A0 → Option (α × PH), (∀ (a0 : A0), I a0 → RF Γ Q (j a0) (hp a0) pcJ (lvJ a0) (stJ a0)) → RF Γ Q (body j) σ pc lv st) : RF Γ Q (jn rest body) σ pc lv st := k2 rest k1
theorem rf_jn2 {A0 A1 α : Type} {Γ : CT} {Q : α → PH → State → Prop} {σ : PH} {pc : Nat} {lv : List (Nat × Value)} {st : List Value} {rest : A0 → A1 → Option (α × PH)} {body : (A0 → A1 → Option (α × PH)) → Option (α × PH)} (I : A0 → A1 → Prop) (hp : A0 → A1 → PH) (lvJ : A0 → A1 → List (Nat × Value)) (stJ : A0 → A1 → List Value) (pcJ : Nat)
    (k1 : ∀ (a0 : A0) (a1 : A1), I a0 a1 → RF Γ Q (rest a0 a1) (hp a0 a1) pcJ (lvJ a0 a1) (stJ a0 a1)) (k2 : ∀ j : A0 → A1 → Option (α × PH), (∀ (a0 : A0) (a1 : A1), I a0 a1 → RF Γ Q (j a0 a1) (hp a0 a1) pcJ (lvJ a0 a1) (stJ a0 a1)) → RF Γ Q (body j) σ pc lv st) : RF Γ Q (jn rest body) σ pc lv st := k2 rest k1
theorem rf_jn3 {A0 A1 A2 α : Type} {Γ : CT} {Q : α → PH → State → Prop} {σ : PH} {pc : Nat} {lv : List (Nat × Value)} {st : List Value} {rest : A0 → A1 → A2 → Option (α × PH)} {body : (A0 → A1 → A2 → Option (α × PH)) → Option (α × PH)} (I : A0 → A1 → A2 → Prop) (hp : A0 → A1 → A2 → PH) (lvJ : A0 → A1 → A2 → List (Nat × Value)) (stJ : A0 → A1 → A2 → List Value) (pcJ : Nat)
    (k1 : ∀ (a0 : A0) (a1 : A1) (a2 : A2), I a0 a1 a2 → RF Γ Q (rest a0 a1 a2) (hp a0 a1 a2) pcJ (lvJ a0 a1 a2) (stJ a0 a1 a2)) (k2 : ∀ j : A0 → A1 → A2 → Option (α × PH), (∀ (a0 : A0) (a1 : A1) (a2 : A2), I a0 a1 a2 → RF Γ Q (j a0 a1 a2) (hp a0 a1 a2) pcJ (lvJ a0 a1 a2) (stJ a0 a1 a2)) → RF Γ Q (body j) σ pc lv st) : RF Γ Q (jn rest body) σ pc lv st := k2 rest k1
theorem rf_jn4 {A0 A1 A2 A3 α : Type} {Γ : CT} {Q : α → PH → State → Prop} {σ : PH} {pc : Nat} {lv : List (Nat × Value)} {st : List Value} {rest : A0 → A1 → A2 → A3 → Option (α × PH)} {body : (A0 → A1 → A2 → A3 → Option (α × PH)) → Option (α × PH)} (I : A0 → A1 → A2 → A3 → Prop) (hp : A0 → A1 → A2 → A3 → PH) (lvJ : A0 → A1 → A2 → A3 → List (Nat × Value)) (stJ : A0 → A1 → A2 → A3 → List Value) (pcJ : Nat)
    (k1 : ∀ (a0 : A0) (a1 : A1) (a2 : A2) (a3 : A3), I a0 a1 a2 a3 → RF Γ Q (rest a0 a1 a2 a3) (hp a0 a1 a2 a3) pcJ (lvJ a0 a1 a2 a3) (stJ a0 a1 a2 a3)) (k2 : ∀ j : A0 → A1 → A2 → A3 → Option (α × PH), (∀ (a0 : A0) (a1 : A1) (a2 : A2) (a3 : A3), I a0 a1 a2 a3 → RF Γ Q (j a0 a1 a2 a3) (hp a0 a1 a2 a3) pcJ (lvJ a0 a1 a2 a3) (stJ a0 a1 a2 a3)) → RF Γ Q (body j) σ pc lv st) : RF Γ Q (jn rest body) σ pc lv st := k2 rest k1
theorem rf_jn5 {A0 A1 A2 A3 A4 α : Type} {Γ : CT} {Q : α → PH → State → Prop} {σ : PH} {pc : Nat} {lv : List (Nat × Value)} {st : List Value} {rest : A0 → A1 → A2 → A3 → A4 → Option (α × PH)} {body : (A0 → A1 → A2 → A3 → A4 → Option (α × PH)) → Option (α × PH)} (I : A0 → A1 → A2 → A3 → A4 → Prop) (hp : A0 → A1 → A2 → A3 → A4 → PH) (lvJ : A0 → A1 → A2 → A3 → A4 → List (Nat × Value)) (stJ : A0 → A1 → A2 → A3 → A4 → List Value) (pcJ : Nat)
    (k1 : ∀ (a0 : A0) (a1 : A1) (a2 : A2) (a3 : A3) (a4 : A4), I a0 a1 a2 a3 a4 → RF Γ Q (rest a0 a1 a2 a3 a4) (hp a0 a1 a2 a3 a4) pcJ (lvJ a0 a1 a2 a3 a4) (stJ a0 a1 a2 a3 a4)) (k2 : ∀ j : A0 → A1 → A2 → A3 → A4 → Option (α × PH), (∀ (a0 : A0) (a1 : A1) (a2 : A2) (a3 : A3) (a4 : A4), I a0 a1 a2 a3 a4 → RF Γ Q (j a0 a1 a2 a3 a4) (hp a0 a1 a2 a3 a4) pcJ (lvJ a0 a1 a2 a3 a4) (stJ a0 a1 a2 a3 a4)) → RF Γ Q (body j) σ pc lv st) : RF Γ Q (jn rest body) σ pc lv st := k2 rest k1
theorem rf_jn6 {A0 A1 A2 A3 A4 A5 α : Type} {Γ : CT} {Q : α → PH → State → Prop} {σ : PH} {pc : Nat} {lv : List (Nat × Value)} {st : List Value} {rest : A0 → A1 → A2 → A3 → A4 → A5 → Option (α × PH)} {body : (A0 → A1 → A2 → A3 → A4 → A5 → Option (α × PH)) → Option (α × PH)} (I : A0 → A1 → A2 → A3 → A4 → A5 → Prop) (hp : A0 → A1 → A2 → A3 → A4 → A5 → PH) (lvJ : A0 → A1 → A2 → A3 → A4 → A5 → List (Nat × Value)) (stJ : A0 → A1 → A2 → A3 → A4 → A5 → List Value) (pcJ : Nat)
    (k1 : ∀ (a0 : A0) (a1 : A1) (a2 : A2) (a3 : A3) (a4 : A4) (a5 : A5), I a0 a1 a2 a3 a4 a5 → RF Γ Q (rest a0 a1 a2 a3 a4 a5) (hp a0 a1 a2 a3 a4 a5) pcJ (lvJ a0 a1 a2 a3 a4 a5) (stJ a0 a1 a2 a3 a4 a5)) (k2 : ∀ j : A0 → A1 → A2 → A3 → A4 → A5 → Option (α × PH), (∀ (a0 : A0) (a1 : A1) (a2 : A2) (a3 : A3) (a4 : A4) (a5 : A5), I a0 a1 a2 a3 a4 a5 → RF Γ Q (j a0 a1 a2 a3 a4 a5) (hp a0 a1 a2 a3 a4 a5) pcJ (lvJ a0 a1 a2 a3 a4 a5) (stJ a0 a1 a2 a3 a4 a5)) → RF Γ Q (body j) σ pc lv st) : RF Γ Q (jn rest body) σ pc lv st := k2 rest k1
theorem rf_jn7 {A0 A1 A2 A3 A4 A5 A6 α : Type} {Γ : CT} {Q : α → PH → State → Prop} {σ : PH} {pc : Nat} {lv : List (Nat × Value)} {st : List Value} {rest : A0 → A1 → A2 → A3 → A4 → A5 → A6 → Option (α × PH)} {body : (A0 → A1 → A2 → A3 → A4 → A5 → A6 → Option (α × PH)) → Option (α × PH)} (I : A0 → A1 → A2 → A3 → A4 → A5 → A6 → Prop) (hp : A0 → A1 → A2 → A3 → A4 → A5 → A6 → PH) (lvJ : A0 → A1 → A2 → A3 → A4 → A5 → A6 → List (Nat × Value)) (stJ : A0 → A1 → A2 → A3 → A4 → A5 → A6 → List Value) (pcJ : Nat)
    (k1 : ∀ (a0 : A0) (a1 : A1) (a2 : A2) (a3 : A3) (a4 : A4) (a5 : A5) (a6 : A6), I a0 a1 a2 a3 a4 a5 a6 → RF Γ Q (rest a0 a1 a2 a3 a4 a5 a6) (hp a0 a1 a2 a3 a4 a5 a6) pcJ (lvJ a0 a1 a2 a3 a4 a5 a6) (stJ a0 a1 a2 a3 a4 a5 a6)) (k2 : ∀ j : A0 → A1 → A2 → A3 → A4 → A5 → A6 → Option (α × PH), (∀ (a0 : A0) (a1 : A1) (a2 : A2) (a3 : A3) (a4 : A4) (a5 : A5) (a6 : A6), I a0 a1 a2 a3 a4 a5 a6 → RF Γ Q (j a0 a1 a2 a3 a4 a5 a6) (hp a0 a1 a2 a3 a4 a5 a6) pcJ (lvJ a0 a1 a2 a3 a4 a5 a6) (stJ a0 a1 a2 a3 a4 a5 a6)) → RF Γ Q (body j) σ pc lv st) : RF Γ Q (jn rest body) σ pc lv st := k2 rest k1
theorem rf_jn8 {A0 A1 A2 A3 A4 A5 A6 A7 α : Type} {Γ : CT} {Q : α → PH → State → Prop} {σ : PH} {pc : Nat} {lv : List (Nat × Value)} {st : List Value} {rest : A0 → A1 → A2 → A3 → A4 → A5 → A6 → A7 → Option (α × PH)} {body : (A0 → A1 → A2 → A3 → A4 → A5 → A6 → A7 → Option (α × PH)) → Option (α × PH)} (I : A0 → A1 → A2 → A3 → A4 → A5 → A6 → A7 → Prop) (hp : A0 → A1 → A2 → A3 → A4 → A5 → A6 → A7 → PH) (lvJ : A0 → A1 → A2 → A3 → A4 → A5 → A6 → A7 → List (Nat × Value)) (stJ : A0 → A1 → A2 → A3 → A4 → A5 → A6 → A7 → List Value) (pcJ : Nat)
    (k1 : ∀ (a0 : A0) (a1 : A1) (a2 : A2) (a3 : A3) (a4 : A4) (a5 : A5) (a6 : A6) (a7 : A7), I a0 a1 a2 a3 a4 a5 a6 a7 → RF Γ Q (rest a0 a1 a2 a3 a4 a5 a6 a7) (hp a0 a1 a2 a3 a4 a5 a6 a7) pcJ (lvJ a0 a1 a2 a3 a4 a5 a6 a7) (stJ a0 a1 a2 a3 a4 a5 a6 a7)) (k2 : ∀ j : A0 → A1 → A2 → A3 → A4 → A5 → A6 → A7 → Option (α × PH), (∀ (a0 : A0) (a1 : A1) (a2 : A2) (a3 : A3) (a4 : A4) (a5 : A5) (a6 : A6) (a7 : A7), I a0 a1 a2 a3 a4 a5 a6 a7 → RF Γ Q (j a0 a1 a2 a3 a4 a5 a6 a7) (hp a0 a1 a2 a3 a4 a5 a6 a7) pcJ (lvJ a0 a1 a2 a3 a4 a5 a6 a7) (stJ a0 a1 a2 a3 a4 a5 a6 a7)) → RF Γ Q (body j) σ pc lv st) : RF Γ Q (jn rest body) σ pc lv st := k2 rest k1
theorem rf_jn9 {A0 A1 A2 A3 A4 A5 A6 A7 A8 α : Type} {Γ : CT} {Q : α → PH → State → Prop} {σ : PH} {pc : Nat} {lv : List (Nat × Value)} {st : List Value} {rest : A0 → A1 → A2 → A3 → A4 → A5 → A6 → A7 → A8 → Option (α × PH)} {body : (A0 → A1 → A2 → A3 → A4 → A5 → A6 → A7 → A8 → Option (α × PH)) → Option (α × PH)} (I : A0 → A1 → A2 → A3 → A4 → A5 → A6 → A7 → A8 → Prop) (hp : A0 → A1 → A2 → A3 → A4 → A5 → A6 → A7 → A8 → PH) (lvJ : A0 → A1 → A2 → A3 → A4 → A5 → A6 → A7 → A8 → List (Nat × Value)) (stJ : A0 → A1 → A2 → A3 → A4 → A5 → A6 → A7 → A8 → List Value) (pcJ : Nat)
    (k1 : ∀ (a0 : A0) (a1 : A1) (a2 : A2) (a3 : A3) (a4 : A4) (a5 : A5) (a6 : A6) (a7 : A7) (a8 : A8), I a0 a1 a2 a3 a4 a5 a6 a7 a8 → RF Γ Q (rest a0 a1 a2 a3 a4 a5 a6 a7 a8) (hp a0 a1 a2 a3 a4 a5 a6 a7 a8) pcJ (lvJ a0 a1 a2 a3 a4 a5 a6 a7 a8) (stJ a0 a1 a2 a3 a4 a5 a6 a7 a8)) (k2 : ∀ j : A0 → A1 → A2 → A3 → A4 → A5 → A6 → A7 → A8 → Option (α × PH), (∀ (a0 : A0) (a1 : A1) (a2 : A2) (a3 : A3) (a4 : A4) (a5 : A5) (a6 : A6) (a7 : A7) (a8 : A8), I a0 a1 a2 a3 a4 a5 a6 a7 a8 → RF Γ Q (j a0 a1 a2 a3 a4 a5 a6 a7 a8) (hp a0 a1 a2 a3 a4 a5 a6 a7 a8) pcJ (lvJ a0 a1 a2 a3 a4 a5 a6 a7 a8) (stJ a0 a1 a2 a3 a4 a5 a6 a7 a8)) → RF Γ Q (body j) σ pc lv st) : RF Γ Q (jn rest body) σ pc lv st := k2 rest k1
theorem rf_alenI {α : Type} {Γ : CT} {Q : α → PH → State → Prop} {x : Option (α × PH)} {σ : PH} {pc : Nat} {lv : List (Nat × Value)} {st : List Value} {cc : ByteArray} {own : String} {rm : Room} {ret : Option FieldType} {nL B : Nat} (C : CX Γ cc own rm ret nL B) {q n : Nat} {v : Int32} (ha : isI B q n) (hv : Int32.ofNat n = v) (d : decode cc pc = .ok (.arraylength, 1)) (k : RF Γ Q x σ (pc + 1) lv (.int v :: st)) : RF Γ Q x σ pc lv (.ref ((gE Γ).2.1 q) :: st) := rf_alen C (tj := 0) ha.1 (xa := fun E i l g => (E.2.2.1 0, n, .inl i)) ha.2 (fun _ _ _ _ => ⟨_, rfl⟩) (fun _ _ _ _ => rfl) hv d k
theorem rf_alenZ {α : Type} {Γ : CT} {Q : α → PH → State → Prop} {x : Option (α × PH)} {σ : PH} {pc : Nat} {lv : List (Nat × Value)} {st : List Value} {cc : ByteArray} {own : String} {rm : Room} {ret : Option FieldType} {nL B : Nat} (C : CX Γ cc own rm ret nL B) {q n : Nat} {v : Int32} (ha : isZ B q n) (hv : Int32.ofNat n = v) (d : decode cc pc = .ok (.arraylength, 1)) (k : RF Γ Q x σ (pc + 1) lv (.int v :: st)) : RF Γ Q x σ pc lv (.ref ((gE Γ).2.1 q) :: st) := rf_alen C (tj := 1) ha.1 (xa := fun E i l g => (E.2.2.1 1, n, .inl i)) ha.2 (fun _ _ _ _ => ⟨_, rfl⟩) (fun _ _ _ _ => rfl) hv d k
theorem rf_alenJ {α : Type} {Γ : CT} {Q : α → PH → State → Prop} {x : Option (α × PH)} {σ : PH} {pc : Nat} {lv : List (Nat × Value)} {st : List Value} {cc : ByteArray} {own : String} {rm : Room} {ret : Option FieldType} {nL B : Nat} (C : CX Γ cc own rm ret nL B) {q n : Nat} {v : Int32} (ha : isJ B q n) (hv : Int32.ofNat n = v) (d : decode cc pc = .ok (.arraylength, 1)) (k : RF Γ Q x σ (pc + 1) lv (.int v :: st)) : RF Γ Q x σ pc lv (.ref ((gE Γ).2.1 q) :: st) := rf_alen C (tj := 2) ha.1 (xa := fun E i l g => (E.2.2.1 2, n, .inr (.inl l))) ha.2 (fun _ _ _ _ => ⟨_, rfl⟩) (fun _ _ _ _ => rfl) hv d k
