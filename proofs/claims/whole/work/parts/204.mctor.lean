theorem obX12_1 : Cond.methodLink RX12 1 objectInit ∈ wsL_law := (inR16 _ (List.mem_of_getElem? (i := 4) rfl))
theorem acZ : Cond.arrayClass .boolean ∈ wsL_law := (inR16 _ (List.mem_of_getElem? (i := 10) rfl))
/-- an entry of the class's part doesn't care what lies behind it -/
def PE (f : ER) : Prop := ∀ (D : va_G) (a : Nat) (H : Heap) (ad0 ad1 : Nat → Nat) (ca : Nat → ClassId) (tS : Nat) (A : Nat → Prop) (i : Nat → Int32) (l : Nat → Int64) (g : Nat → Nat), (∀ x, x < 148 → ad1 x = ad0 x) → (∀ k, g k < 6) → va_at D vwCl (a, f (D, ad0, ca, tS, 148, A) i l g) H → va_at D vwCl (a, f (D, ad1, ca, tS, 174, A) i l g) H
theorem PE_I (n : Nat) : PE (fun E i _ _ => .inl (E.2.2.1 0, n, .inl i)) := fun _ _ _ _ _ _ _ _ _ _ _ _ _ h => h
theorem PE_Z (n : Nat) : PE (fun E i _ _ => .inl (E.2.2.1 1, n, .inl i)) := fun _ _ _ _ _ _ _ _ _ _ _ _ _ h => h
theorem PE_J (n : Nat) : PE (fun E _ l _ => .inl (E.2.2.1 2, n, .inr (.inl l))) := fun _ _ _ _ _ _ _ _ _ _ _ _ _ h => h
theorem PE_O {ci : Nat} {F : GE → (Nat → Int32) → (Nat → Int64) → (Nat → Nat) → List Value} (hF : ∀ (D : va_G) (ad0 ad1 : Nat → Nat) (ca : Nat → ClassId) (tS : Nat) (A : Nat → Prop) (i : Nat → Int32) (l : Nat → Int64) (g : Nat → Nat), (∀ x, x < 148 → ad1 x = ad0 x) → (∀ k, g k < 6) → F (D, ad1, ca, tS, 174, A) i l g = F (D, ad0, ca, tS, 148, A) i l g) : PE (fun E i l g => .inr (ci, F E i l g)) := by
  intro D a H ad0 ad1 ca tS A i l g had h6 h
  show va_at D vwCl (a, .inr (ci, F (D, ad1, ca, tS, 174, A) i l g)) H
  rw [hF D ad0 ad1 ca tS A i l g had h6]
  exact h
theorem cellq_cong {cA : ClassId} {n : Nat} {f g : Nat → Option Nat} (h : ∀ i, i < n → f i = g i) : vp_cell cA (n, .inr (.inr (.inr (.inr f)))) = vp_cell cA (n, .inr (.inr (.inr (.inr g)))) := by
  rw [vp_cell_q, vp_cell_q]
  unfold arrV
  congr 2
  funext i
  show va_rf (f i.val) = va_rf (g i.val)
  rw [h i.val i.isLt]
theorem PE_W {n b : Nat} (hb : 66 + 2 * (b + n) ≤ 148) : PE (fun E _ _ _ => .inl (E.2.2.1 3, n, .inr (.inr (.inr (.inr fun j => some (E.2.1 (wId (b + j) 0))))))) := by
  intro D a H ad0 ad1 ca tS A i l g had h6 h
  have h1 : H[a]? = some (vp_cell (ca 3) (n, .inr (.inr (.inr (.inr fun j => some (ad0 (wId (b + j) 0))))))) := h
  show H[a]? = some (vp_cell (ca 3) (n, .inr (.inr (.inr (.inr fun j => some (ad1 (wId (b + j) 0)))))))
  rw [h1, cellq_cong]
  intro j hj
  rw [had _ (by unfold wId; omega)]
theorem PE_G : PE (fun E _ _ g => .inl (E.2.2.1 4, 4, .inr (.inr (.inr (.inr fun j => some (E.2.1 (gId (g j) 0))))))) := by
  intro D a H ad0 ad1 ca tS A i l g had h6 h
  have h1 : H[a]? = some (vp_cell (ca 4) (4, .inr (.inr (.inr (.inr fun j => some (ad0 (gId (g j) 0))))))) := h
  show H[a]? = some (vp_cell (ca 4) (4, .inr (.inr (.inr (.inr fun j => some (ad1 (gId (g j) 0)))))))
  rw [h1, cellq_cong]
  intro j hj
  have := h6 j
  rw [had _ (by unfold gId; omega)]
theorem PE_O11 : PE (fun E i l g => .inr (11, fl11 E i l g)) := PE_O (fun D ad0 ad1 ca tS A i l g had h6 => by
  unfold fl11; dsimp only; have h8 := h6 8; rw [had (gId (g 8) 0) (by unfold gId; omega)]; rw [had 1 (by decide), had 3 (by decide), had 5 (by decide), had 7 (by decide), had 13 (by decide), had 21 (by decide), had 24 (by decide), had 29 (by decide)])
theorem PE_O8 : PE (fun E i l g => .inr (8, fl8 E i l g)) := PE_O (fun D ad0 ad1 ca tS A i l g had h6 => by
  unfold fl8; dsimp only; rw [had 2 (by decide)])
theorem PE_O7 : PE (fun E i l g => .inr (7, fl7 E i l g)) := PE_O (fun D ad0 ad1 ca tS A i l g had h6 => by
  unfold fl7; dsimp only; have h8 := h6 1; rw [had (gId (g 1) 0) (by unfold gId; omega)]; rw [had 4 (by decide)])
theorem PE_O5 : PE (fun E i l g => .inr (5, fl5 E i l g)) := PE_O (fun D ad0 ad1 ca tS A i l g had h6 => by
  unfold fl5; dsimp only; rw [had 6 (by decide)])
theorem PE_O9 : PE (fun E i l g => .inr (9, fl9 E i l g)) := PE_O (fun D ad0 ad1 ca tS A i l g had h6 => by
  unfold fl9; dsimp only; rw [had 8 (by decide), had 9 (by decide), had 10 (by decide), had 11 (by decide), had 12 (by decide)])
theorem PE_O3 : PE (fun E i l g => .inr (3, fl3 E i l g)) := PE_O (fun D ad0 ad1 ca tS A i l g had h6 => by
  unfold fl3; dsimp only; rw [had (wId 0 0) (by decide)]; rw [had 14 (by decide), had 15 (by decide), had 16 (by decide), had 17 (by decide), had 18 (by decide), had 19 (by decide), had 20 (by decide)])
theorem PE_O6 : PE (fun E i l g => .inr (6, fl6 E i l g)) := PE_O (fun D ad0 ad1 ca tS A i l g had h6 => by
  unfold fl6; dsimp only; rw [had 22 (by decide), had 23 (by decide)])
theorem PE_O2 : PE (fun E i l g => .inr (2, fl2 E i l g)) := PE_O (fun D ad0 ad1 ca tS A i l g had h6 => by
  unfold fl2; dsimp only; rw [had (cId 0 0) (by decide)]; rw [had 25 (by decide), had 26 (by decide), had 27 (by decide), had 28 (by decide)])
theorem PE_O0 : PE (fun E i l g => .inr (0, fl0 E i l g)) := PE_O (fun D ad0 ad1 ca tS A i l g had h6 => by
  unfold fl0; dsimp only; rw [had (cId 1 0) (by decide)]; skip)
theorem PE_O4 {q : Nat} (hq : q < 6) : PE (fun E i l g => .inr (4, fl4 E q i l g)) := PE_O (F := fun E => fl4 E q) (fun D ad0 ad1 ca tS A i l g had h6 => by
  unfold fl4; dsimp only; rw [had (gId q 1) (by unfold gId; omega), had (gId q 2) (by unfold gId; omega), had (gId q 3) (by unfold gId; omega), had (gId q 4) (by unfold gId; omega), had (gId q 5) (by unfold gId; omega)])
theorem PE_O10 {q : Nat} (hq : q < 36) : PE (fun E i l g => .inr (10, fl10 E q i l g)) := PE_O (F := fun E => fl10 E q) (fun D ad0 ad1 ca tS A i l g had h6 => by
  unfold fl10; dsimp only; rw [had (wId q 1) (by unfold wId; omega)])
theorem PE_O1 {q : Nat} (hq : q < 2) : PE (fun E i l g => .inr (1, fl1 E q i l g)) := PE_O (F := fun E => fl1 E q) (fun D ad0 ad1 ca tS A i l g had h6 => by
  unfold fl1; dsimp only; rw [had (cId q 1) (by unfold cId; omega), had (cId q 2) (by unfold cId; omega), had (cId q 3) (by unfold cId; omega), had (cId q 4) (by unfold cId; omega)])
theorem pe0 : PE (entA 0) := PE_O11
theorem pe1 : PE (entA 1) := PE_O8
theorem pe2 : PE (entA 2) := PE_I 100
theorem pe3 : PE (entA 3) := PE_O7
theorem pe4 : PE (entA 4) := PE_I 6
theorem pe5 : PE (entA 5) := PE_O5
theorem pe6 : PE (entA 6) := PE_G
theorem pe7 : PE (entA 7) := PE_O9
theorem pe8 : PE (entA 8) := PE_I 6
theorem pe9 : PE (entA 9) := PE_I 96
theorem pe10 : PE (entA 10) := PE_I 6
theorem pe11 : PE (entA 11) := PE_I 6
theorem pe12 : PE (entA 12) := PE_I 6
theorem pe13 : PE (entA 13) := PE_O3
theorem pe14 : PE (entA 14) := PE_W (by decide)
theorem pe15 : PE (entA 15) := PE_W (by decide)
theorem pe16 : PE (entA 16) := PE_W (by decide)
theorem pe17 : PE (entA 17) := PE_W (by decide)
theorem pe18 : PE (entA 18) := PE_W (by decide)
theorem pe19 : PE (entA 19) := PE_I 6
theorem pe20 : PE (entA 20) := PE_I 6
theorem pe21 : PE (entA 21) := PE_O6
theorem pe22 : PE (entA 22) := PE_I 301
theorem pe23 : PE (entA 23) := PE_I 60
theorem pe24 : PE (entA 24) := PE_O2
theorem pe25 : PE (entA 25) := PE_I 802
theorem pe26 : PE (entA 26) := PE_I 7218
theorem pe27 : PE (entA 27) := PE_I 400
theorem pe28 : PE (entA 28) := PE_I 2
theorem pe29 : PE (entA 29) := PE_O0
theorem pe30 : PE (entA 30) := PE_O4 (q := 0) (by decide)
theorem pe31 : PE (entA 31) := PE_I 16
theorem pe32 : PE (entA 32) := PE_I 16
theorem pe33 : PE (entA 33) := PE_I 80
theorem pe34 : PE (entA 34) := PE_I 6
theorem pe35 : PE (entA 35) := PE_I 6
theorem pe36 : PE (entA 36) := PE_O4 (q := 1) (by decide)
theorem pe37 : PE (entA 37) := PE_I 16
theorem pe38 : PE (entA 38) := PE_I 16
theorem pe39 : PE (entA 39) := PE_I 80
theorem pe40 : PE (entA 40) := PE_I 6
theorem pe41 : PE (entA 41) := PE_I 6
theorem pe42 : PE (entA 42) := PE_O4 (q := 2) (by decide)
theorem pe43 : PE (entA 43) := PE_I 16
theorem pe44 : PE (entA 44) := PE_I 16
theorem pe45 : PE (entA 45) := PE_I 80
theorem pe46 : PE (entA 46) := PE_I 6
theorem pe47 : PE (entA 47) := PE_I 6
theorem pe48 : PE (entA 48) := PE_O4 (q := 3) (by decide)
theorem pe49 : PE (entA 49) := PE_I 16
theorem pe50 : PE (entA 50) := PE_I 16
theorem pe51 : PE (entA 51) := PE_I 80
theorem pe52 : PE (entA 52) := PE_I 6
theorem pe53 : PE (entA 53) := PE_I 6
theorem pe54 : PE (entA 54) := PE_O4 (q := 4) (by decide)
theorem pe55 : PE (entA 55) := PE_I 16
theorem pe56 : PE (entA 56) := PE_I 16
theorem pe57 : PE (entA 57) := PE_I 80
theorem pe58 : PE (entA 58) := PE_I 6
theorem pe59 : PE (entA 59) := PE_I 6
theorem pe60 : PE (entA 60) := PE_O4 (q := 5) (by decide)
theorem pe61 : PE (entA 61) := PE_I 16
theorem pe62 : PE (entA 62) := PE_I 16
theorem pe63 : PE (entA 63) := PE_I 80
theorem pe64 : PE (entA 64) := PE_I 6
theorem pe65 : PE (entA 65) := PE_I 6
theorem pe66 : PE (entA 66) := PE_O10 (q := 0) (by decide)
theorem pe67 : PE (entA 67) := PE_J 6
theorem pe68 : PE (entA 68) := PE_O10 (q := 1) (by decide)
theorem pe69 : PE (entA 69) := PE_J 6
theorem pe70 : PE (entA 70) := PE_O10 (q := 2) (by decide)
theorem pe71 : PE (entA 71) := PE_J 6
theorem pe72 : PE (entA 72) := PE_O10 (q := 3) (by decide)
theorem pe73 : PE (entA 73) := PE_J 6
theorem pe74 : PE (entA 74) := PE_O10 (q := 4) (by decide)
theorem pe75 : PE (entA 75) := PE_J 6
theorem pe76 : PE (entA 76) := PE_O10 (q := 5) (by decide)
theorem pe77 : PE (entA 77) := PE_J 6
theorem pe78 : PE (entA 78) := PE_O10 (q := 6) (by decide)
theorem pe79 : PE (entA 79) := PE_J 6
theorem pe80 : PE (entA 80) := PE_O10 (q := 7) (by decide)
theorem pe81 : PE (entA 81) := PE_J 6
theorem pe82 : PE (entA 82) := PE_O10 (q := 8) (by decide)
theorem pe83 : PE (entA 83) := PE_J 6
theorem pe84 : PE (entA 84) := PE_O10 (q := 9) (by decide)
theorem pe85 : PE (entA 85) := PE_J 6
theorem pe86 : PE (entA 86) := PE_O10 (q := 10) (by decide)
theorem pe87 : PE (entA 87) := PE_J 6
theorem pe88 : PE (entA 88) := PE_O10 (q := 11) (by decide)
theorem pe89 : PE (entA 89) := PE_J 6
theorem pe90 : PE (entA 90) := PE_O10 (q := 12) (by decide)
theorem pe91 : PE (entA 91) := PE_J 6
theorem pe92 : PE (entA 92) := PE_O10 (q := 13) (by decide)
theorem pe93 : PE (entA 93) := PE_J 6
theorem pe94 : PE (entA 94) := PE_O10 (q := 14) (by decide)
theorem pe95 : PE (entA 95) := PE_J 6
theorem pe96 : PE (entA 96) := PE_O10 (q := 15) (by decide)
theorem pe97 : PE (entA 97) := PE_J 6
theorem pe98 : PE (entA 98) := PE_O10 (q := 16) (by decide)
theorem pe99 : PE (entA 99) := PE_J 6
theorem pe100 : PE (entA 100) := PE_O10 (q := 17) (by decide)
theorem pe101 : PE (entA 101) := PE_J 6
theorem pe102 : PE (entA 102) := PE_O10 (q := 18) (by decide)
theorem pe103 : PE (entA 103) := PE_J 6
theorem pe104 : PE (entA 104) := PE_O10 (q := 19) (by decide)
theorem pe105 : PE (entA 105) := PE_J 6
theorem pe106 : PE (entA 106) := PE_O10 (q := 20) (by decide)
theorem pe107 : PE (entA 107) := PE_J 6
theorem pe108 : PE (entA 108) := PE_O10 (q := 21) (by decide)
theorem pe109 : PE (entA 109) := PE_J 6
theorem pe110 : PE (entA 110) := PE_O10 (q := 22) (by decide)
theorem pe111 : PE (entA 111) := PE_J 6
theorem pe112 : PE (entA 112) := PE_O10 (q := 23) (by decide)
theorem pe113 : PE (entA 113) := PE_J 6
theorem pe114 : PE (entA 114) := PE_O10 (q := 24) (by decide)
theorem pe115 : PE (entA 115) := PE_J 6
theorem pe116 : PE (entA 116) := PE_O10 (q := 25) (by decide)
theorem pe117 : PE (entA 117) := PE_J 6
theorem pe118 : PE (entA 118) := PE_O10 (q := 26) (by decide)
theorem pe119 : PE (entA 119) := PE_J 6
theorem pe120 : PE (entA 120) := PE_O10 (q := 27) (by decide)
theorem pe121 : PE (entA 121) := PE_J 6
theorem pe122 : PE (entA 122) := PE_O10 (q := 28) (by decide)
theorem pe123 : PE (entA 123) := PE_J 6
theorem pe124 : PE (entA 124) := PE_O10 (q := 29) (by decide)
theorem pe125 : PE (entA 125) := PE_J 6
theorem pe126 : PE (entA 126) := PE_O10 (q := 30) (by decide)
theorem pe127 : PE (entA 127) := PE_J 6
theorem pe128 : PE (entA 128) := PE_O10 (q := 31) (by decide)
theorem pe129 : PE (entA 129) := PE_J 6
theorem pe130 : PE (entA 130) := PE_O10 (q := 32) (by decide)
theorem pe131 : PE (entA 131) := PE_J 6
theorem pe132 : PE (entA 132) := PE_O10 (q := 33) (by decide)
theorem pe133 : PE (entA 133) := PE_J 6
theorem pe134 : PE (entA 134) := PE_O10 (q := 34) (by decide)
theorem pe135 : PE (entA 135) := PE_J 6
theorem pe136 : PE (entA 136) := PE_O10 (q := 35) (by decide)
theorem pe137 : PE (entA 137) := PE_J 6
theorem pe138 : PE (entA 138) := PE_O1 (q := 0) (by decide)
theorem pe139 : PE (entA 139) := PE_I 8
theorem pe140 : PE (entA 140) := PE_I 81
theorem pe141 : PE (entA 141) := PE_I 486
theorem pe142 : PE (entA 142) := PE_I 9
theorem pe143 : PE (entA 143) := PE_O1 (q := 1) (by decide)
theorem pe144 : PE (entA 144) := PE_I 8
theorem pe145 : PE (entA 145) := PE_I 81
theorem pe146 : PE (entA 146) := PE_I 4686
theorem pe147 : PE (entA 147) := PE_I 9
theorem PE_all (q : Nat) (hq : q < 148) : PE (entA q) := by
  have hz : 0 ≤ q := Nat.zero_le q
  · rcases Nat.lt_or_ge q 74 with h | h
    · rcases Nat.lt_or_ge q 37 with h | h
      · rcases Nat.lt_or_ge q 18 with h | h
        · rcases Nat.lt_or_ge q 9 with h | h
          · rcases Nat.lt_or_ge q 4 with h | h
            · rcases Nat.lt_or_ge q 2 with h | h
              · rcases Nat.lt_or_ge q 1 with h | h
                · have e : q = 0 := by omega
                  subst e; exact pe0
                · have e : q = 1 := by omega
                  subst e; exact pe1
              · rcases Nat.lt_or_ge q 3 with h | h
                · have e : q = 2 := by omega
                  subst e; exact pe2
                · have e : q = 3 := by omega
                  subst e; exact pe3
            · rcases Nat.lt_or_ge q 6 with h | h
              · rcases Nat.lt_or_ge q 5 with h | h
                · have e : q = 4 := by omega
                  subst e; exact pe4
                · have e : q = 5 := by omega
                  subst e; exact pe5
              · rcases Nat.lt_or_ge q 7 with h | h
                · have e : q = 6 := by omega
                  subst e; exact pe6
                · rcases Nat.lt_or_ge q 8 with h | h
                  · have e : q = 7 := by omega
                    subst e; exact pe7
                  · have e : q = 8 := by omega
                    subst e; exact pe8
          · rcases Nat.lt_or_ge q 13 with h | h
            · rcases Nat.lt_or_ge q 11 with h | h
              · rcases Nat.lt_or_ge q 10 with h | h
                · have e : q = 9 := by omega
                  subst e; exact pe9
                · have e : q = 10 := by omega
                  subst e; exact pe10
              · rcases Nat.lt_or_ge q 12 with h | h
                · have e : q = 11 := by omega
                  subst e; exact pe11
                · have e : q = 12 := by omega
                  subst e; exact pe12
            · rcases Nat.lt_or_ge q 15 with h | h
              · rcases Nat.lt_or_ge q 14 with h | h
                · have e : q = 13 := by omega
                  subst e; exact pe13
                · have e : q = 14 := by omega
                  subst e; exact pe14
              · rcases Nat.lt_or_ge q 16 with h | h
                · have e : q = 15 := by omega
                  subst e; exact pe15
                · rcases Nat.lt_or_ge q 17 with h | h
                  · have e : q = 16 := by omega
                    subst e; exact pe16
                  · have e : q = 17 := by omega
                    subst e; exact pe17
        · rcases Nat.lt_or_ge q 27 with h | h
          · rcases Nat.lt_or_ge q 22 with h | h
            · rcases Nat.lt_or_ge q 20 with h | h
              · rcases Nat.lt_or_ge q 19 with h | h
                · have e : q = 18 := by omega
                  subst e; exact pe18
                · have e : q = 19 := by omega
                  subst e; exact pe19
              · rcases Nat.lt_or_ge q 21 with h | h
                · have e : q = 20 := by omega
                  subst e; exact pe20
                · have e : q = 21 := by omega
                  subst e; exact pe21
            · rcases Nat.lt_or_ge q 24 with h | h
              · rcases Nat.lt_or_ge q 23 with h | h
                · have e : q = 22 := by omega
                  subst e; exact pe22
                · have e : q = 23 := by omega
                  subst e; exact pe23
              · rcases Nat.lt_or_ge q 25 with h | h
                · have e : q = 24 := by omega
                  subst e; exact pe24
                · rcases Nat.lt_or_ge q 26 with h | h
                  · have e : q = 25 := by omega
                    subst e; exact pe25
                  · have e : q = 26 := by omega
                    subst e; exact pe26
          · rcases Nat.lt_or_ge q 32 with h | h
            · rcases Nat.lt_or_ge q 29 with h | h
              · rcases Nat.lt_or_ge q 28 with h | h
                · have e : q = 27 := by omega
                  subst e; exact pe27
                · have e : q = 28 := by omega
                  subst e; exact pe28
              · rcases Nat.lt_or_ge q 30 with h | h
                · have e : q = 29 := by omega
                  subst e; exact pe29
                · rcases Nat.lt_or_ge q 31 with h | h
                  · have e : q = 30 := by omega
                    subst e; exact pe30
                  · have e : q = 31 := by omega
                    subst e; exact pe31
            · rcases Nat.lt_or_ge q 34 with h | h
              · rcases Nat.lt_or_ge q 33 with h | h
                · have e : q = 32 := by omega
                  subst e; exact pe32
                · have e : q = 33 := by omega
                  subst e; exact pe33
              · rcases Nat.lt_or_ge q 35 with h | h
                · have e : q = 34 := by omega
                  subst e; exact pe34
                · rcases Nat.lt_or_ge q 36 with h | h
                  · have e : q = 35 := by omega
                    subst e; exact pe35
                  · have e : q = 36 := by omega
                    subst e; exact pe36
      · rcases Nat.lt_or_ge q 55 with h | h
        · rcases Nat.lt_or_ge q 46 with h | h
          · rcases Nat.lt_or_ge q 41 with h | h
            · rcases Nat.lt_or_ge q 39 with h | h
              · rcases Nat.lt_or_ge q 38 with h | h
                · have e : q = 37 := by omega
                  subst e; exact pe37
                · have e : q = 38 := by omega
                  subst e; exact pe38
              · rcases Nat.lt_or_ge q 40 with h | h
                · have e : q = 39 := by omega
                  subst e; exact pe39
                · have e : q = 40 := by omega
                  subst e; exact pe40
            · rcases Nat.lt_or_ge q 43 with h | h
              · rcases Nat.lt_or_ge q 42 with h | h
                · have e : q = 41 := by omega
                  subst e; exact pe41
                · have e : q = 42 := by omega
                  subst e; exact pe42
              · rcases Nat.lt_or_ge q 44 with h | h
                · have e : q = 43 := by omega
                  subst e; exact pe43
                · rcases Nat.lt_or_ge q 45 with h | h
                  · have e : q = 44 := by omega
                    subst e; exact pe44
                  · have e : q = 45 := by omega
                    subst e; exact pe45
          · rcases Nat.lt_or_ge q 50 with h | h
            · rcases Nat.lt_or_ge q 48 with h | h
              · rcases Nat.lt_or_ge q 47 with h | h
                · have e : q = 46 := by omega
                  subst e; exact pe46
                · have e : q = 47 := by omega
                  subst e; exact pe47
              · rcases Nat.lt_or_ge q 49 with h | h
                · have e : q = 48 := by omega
                  subst e; exact pe48
                · have e : q = 49 := by omega
                  subst e; exact pe49
            · rcases Nat.lt_or_ge q 52 with h | h
              · rcases Nat.lt_or_ge q 51 with h | h
                · have e : q = 50 := by omega
                  subst e; exact pe50
                · have e : q = 51 := by omega
                  subst e; exact pe51
              · rcases Nat.lt_or_ge q 53 with h | h
                · have e : q = 52 := by omega
                  subst e; exact pe52
                · rcases Nat.lt_or_ge q 54 with h | h
                  · have e : q = 53 := by omega
                    subst e; exact pe53
                  · have e : q = 54 := by omega
                    subst e; exact pe54
        · rcases Nat.lt_or_ge q 64 with h | h
          · rcases Nat.lt_or_ge q 59 with h | h
            · rcases Nat.lt_or_ge q 57 with h | h
              · rcases Nat.lt_or_ge q 56 with h | h
                · have e : q = 55 := by omega
                  subst e; exact pe55
                · have e : q = 56 := by omega
                  subst e; exact pe56
              · rcases Nat.lt_or_ge q 58 with h | h
                · have e : q = 57 := by omega
                  subst e; exact pe57
                · have e : q = 58 := by omega
                  subst e; exact pe58
            · rcases Nat.lt_or_ge q 61 with h | h
              · rcases Nat.lt_or_ge q 60 with h | h
                · have e : q = 59 := by omega
                  subst e; exact pe59
                · have e : q = 60 := by omega
                  subst e; exact pe60
              · rcases Nat.lt_or_ge q 62 with h | h
                · have e : q = 61 := by omega
                  subst e; exact pe61
                · rcases Nat.lt_or_ge q 63 with h | h
                  · have e : q = 62 := by omega
                    subst e; exact pe62
                  · have e : q = 63 := by omega
                    subst e; exact pe63
          · rcases Nat.lt_or_ge q 69 with h | h
            · rcases Nat.lt_or_ge q 66 with h | h
              · rcases Nat.lt_or_ge q 65 with h | h
                · have e : q = 64 := by omega
                  subst e; exact pe64
                · have e : q = 65 := by omega
                  subst e; exact pe65
              · rcases Nat.lt_or_ge q 67 with h | h
                · have e : q = 66 := by omega
                  subst e; exact pe66
                · rcases Nat.lt_or_ge q 68 with h | h
                  · have e : q = 67 := by omega
                    subst e; exact pe67
                  · have e : q = 68 := by omega
                    subst e; exact pe68
            · rcases Nat.lt_or_ge q 71 with h | h
              · rcases Nat.lt_or_ge q 70 with h | h
                · have e : q = 69 := by omega
                  subst e; exact pe69
                · have e : q = 70 := by omega
                  subst e; exact pe70
              · rcases Nat.lt_or_ge q 72 with h | h
                · have e : q = 71 := by omega
                  subst e; exact pe71
                · rcases Nat.lt_or_ge q 73 with h | h
                  · have e : q = 72 := by omega
                    subst e; exact pe72
                  · have e : q = 73 := by omega
                    subst e; exact pe73
    · rcases Nat.lt_or_ge q 111 with h | h
      · rcases Nat.lt_or_ge q 92 with h | h
        · rcases Nat.lt_or_ge q 83 with h | h
          · rcases Nat.lt_or_ge q 78 with h | h
            · rcases Nat.lt_or_ge q 76 with h | h
              · rcases Nat.lt_or_ge q 75 with h | h
                · have e : q = 74 := by omega
                  subst e; exact pe74
                · have e : q = 75 := by omega
                  subst e; exact pe75
              · rcases Nat.lt_or_ge q 77 with h | h
                · have e : q = 76 := by omega
                  subst e; exact pe76
                · have e : q = 77 := by omega
                  subst e; exact pe77
            · rcases Nat.lt_or_ge q 80 with h | h
              · rcases Nat.lt_or_ge q 79 with h | h
                · have e : q = 78 := by omega
                  subst e; exact pe78
                · have e : q = 79 := by omega
                  subst e; exact pe79
              · rcases Nat.lt_or_ge q 81 with h | h
                · have e : q = 80 := by omega
                  subst e; exact pe80
                · rcases Nat.lt_or_ge q 82 with h | h
                  · have e : q = 81 := by omega
                    subst e; exact pe81
                  · have e : q = 82 := by omega
                    subst e; exact pe82
          · rcases Nat.lt_or_ge q 87 with h | h
            · rcases Nat.lt_or_ge q 85 with h | h
              · rcases Nat.lt_or_ge q 84 with h | h
                · have e : q = 83 := by omega
                  subst e; exact pe83
                · have e : q = 84 := by omega
                  subst e; exact pe84
              · rcases Nat.lt_or_ge q 86 with h | h
                · have e : q = 85 := by omega
                  subst e; exact pe85
                · have e : q = 86 := by omega
                  subst e; exact pe86
            · rcases Nat.lt_or_ge q 89 with h | h
              · rcases Nat.lt_or_ge q 88 with h | h
                · have e : q = 87 := by omega
                  subst e; exact pe87
                · have e : q = 88 := by omega
                  subst e; exact pe88
              · rcases Nat.lt_or_ge q 90 with h | h
                · have e : q = 89 := by omega
                  subst e; exact pe89
                · rcases Nat.lt_or_ge q 91 with h | h
                  · have e : q = 90 := by omega
                    subst e; exact pe90
                  · have e : q = 91 := by omega
                    subst e; exact pe91
        · rcases Nat.lt_or_ge q 101 with h | h
          · rcases Nat.lt_or_ge q 96 with h | h
            · rcases Nat.lt_or_ge q 94 with h | h
              · rcases Nat.lt_or_ge q 93 with h | h
                · have e : q = 92 := by omega
                  subst e; exact pe92
                · have e : q = 93 := by omega
                  subst e; exact pe93
              · rcases Nat.lt_or_ge q 95 with h | h
                · have e : q = 94 := by omega
                  subst e; exact pe94
                · have e : q = 95 := by omega
                  subst e; exact pe95
            · rcases Nat.lt_or_ge q 98 with h | h
              · rcases Nat.lt_or_ge q 97 with h | h
                · have e : q = 96 := by omega
                  subst e; exact pe96
                · have e : q = 97 := by omega
                  subst e; exact pe97
              · rcases Nat.lt_or_ge q 99 with h | h
                · have e : q = 98 := by omega
                  subst e; exact pe98
                · rcases Nat.lt_or_ge q 100 with h | h
                  · have e : q = 99 := by omega
                    subst e; exact pe99
                  · have e : q = 100 := by omega
                    subst e; exact pe100
          · rcases Nat.lt_or_ge q 106 with h | h
            · rcases Nat.lt_or_ge q 103 with h | h
              · rcases Nat.lt_or_ge q 102 with h | h
                · have e : q = 101 := by omega
                  subst e; exact pe101
                · have e : q = 102 := by omega
                  subst e; exact pe102
              · rcases Nat.lt_or_ge q 104 with h | h
                · have e : q = 103 := by omega
                  subst e; exact pe103
                · rcases Nat.lt_or_ge q 105 with h | h
                  · have e : q = 104 := by omega
                    subst e; exact pe104
                  · have e : q = 105 := by omega
                    subst e; exact pe105
            · rcases Nat.lt_or_ge q 108 with h | h
              · rcases Nat.lt_or_ge q 107 with h | h
                · have e : q = 106 := by omega
                  subst e; exact pe106
                · have e : q = 107 := by omega
                  subst e; exact pe107
              · rcases Nat.lt_or_ge q 109 with h | h
                · have e : q = 108 := by omega
                  subst e; exact pe108
                · rcases Nat.lt_or_ge q 110 with h | h
                  · have e : q = 109 := by omega
                    subst e; exact pe109
                  · have e : q = 110 := by omega
                    subst e; exact pe110
      · rcases Nat.lt_or_ge q 129 with h | h
        · rcases Nat.lt_or_ge q 120 with h | h
          · rcases Nat.lt_or_ge q 115 with h | h
            · rcases Nat.lt_or_ge q 113 with h | h
              · rcases Nat.lt_or_ge q 112 with h | h
                · have e : q = 111 := by omega
                  subst e; exact pe111
                · have e : q = 112 := by omega
                  subst e; exact pe112
              · rcases Nat.lt_or_ge q 114 with h | h
                · have e : q = 113 := by omega
                  subst e; exact pe113
                · have e : q = 114 := by omega
                  subst e; exact pe114
            · rcases Nat.lt_or_ge q 117 with h | h
              · rcases Nat.lt_or_ge q 116 with h | h
                · have e : q = 115 := by omega
                  subst e; exact pe115
                · have e : q = 116 := by omega
                  subst e; exact pe116
              · rcases Nat.lt_or_ge q 118 with h | h
                · have e : q = 117 := by omega
                  subst e; exact pe117
                · rcases Nat.lt_or_ge q 119 with h | h
                  · have e : q = 118 := by omega
                    subst e; exact pe118
                  · have e : q = 119 := by omega
                    subst e; exact pe119
          · rcases Nat.lt_or_ge q 124 with h | h
            · rcases Nat.lt_or_ge q 122 with h | h
              · rcases Nat.lt_or_ge q 121 with h | h
                · have e : q = 120 := by omega
                  subst e; exact pe120
                · have e : q = 121 := by omega
                  subst e; exact pe121
              · rcases Nat.lt_or_ge q 123 with h | h
                · have e : q = 122 := by omega
                  subst e; exact pe122
                · have e : q = 123 := by omega
                  subst e; exact pe123
            · rcases Nat.lt_or_ge q 126 with h | h
              · rcases Nat.lt_or_ge q 125 with h | h
                · have e : q = 124 := by omega
                  subst e; exact pe124
                · have e : q = 125 := by omega
                  subst e; exact pe125
              · rcases Nat.lt_or_ge q 127 with h | h
                · have e : q = 126 := by omega
                  subst e; exact pe126
                · rcases Nat.lt_or_ge q 128 with h | h
                  · have e : q = 127 := by omega
                    subst e; exact pe127
                  · have e : q = 128 := by omega
                    subst e; exact pe128
        · rcases Nat.lt_or_ge q 138 with h | h
          · rcases Nat.lt_or_ge q 133 with h | h
            · rcases Nat.lt_or_ge q 131 with h | h
              · rcases Nat.lt_or_ge q 130 with h | h
                · have e : q = 129 := by omega
                  subst e; exact pe129
                · have e : q = 130 := by omega
                  subst e; exact pe130
              · rcases Nat.lt_or_ge q 132 with h | h
                · have e : q = 131 := by omega
                  subst e; exact pe131
                · have e : q = 132 := by omega
                  subst e; exact pe132
            · rcases Nat.lt_or_ge q 135 with h | h
              · rcases Nat.lt_or_ge q 134 with h | h
                · have e : q = 133 := by omega
                  subst e; exact pe133
                · have e : q = 134 := by omega
                  subst e; exact pe134
              · rcases Nat.lt_or_ge q 136 with h | h
                · have e : q = 135 := by omega
                  subst e; exact pe135
                · rcases Nat.lt_or_ge q 137 with h | h
                  · have e : q = 136 := by omega
                    subst e; exact pe136
                  · have e : q = 137 := by omega
                    subst e; exact pe137
          · rcases Nat.lt_or_ge q 143 with h | h
            · rcases Nat.lt_or_ge q 140 with h | h
              · rcases Nat.lt_or_ge q 139 with h | h
                · have e : q = 138 := by omega
                  subst e; exact pe138
                · have e : q = 139 := by omega
                  subst e; exact pe139
              · rcases Nat.lt_or_ge q 141 with h | h
                · have e : q = 140 := by omega
                  subst e; exact pe140
                · rcases Nat.lt_or_ge q 142 with h | h
                  · have e : q = 141 := by omega
                    subst e; exact pe141
                  · have e : q = 142 := by omega
                    subst e; exact pe142
            · rcases Nat.lt_or_ge q 145 with h | h
              · rcases Nat.lt_or_ge q 144 with h | h
                · have e : q = 143 := by omega
                  subst e; exact pe143
                · have e : q = 144 := by omega
                  subst e; exact pe144
              · rcases Nat.lt_or_ge q 146 with h | h
                · have e : q = 145 := by omega
                  subst e; exact pe145
                · rcases Nat.lt_or_ge q 147 with h | h
                  · have e : q = 146 := by omega
                    subst e; exact pe146
                  · have e : q = 147 := by omega
                    subst e; exact pe147

theorem va_D.addr {A : Nat → Prop} {ws ws' : va_W} (h : ∀ k : Nat, (ws'[k]?).map Prod.fst = (ws[k]?).map Prod.fst) (hD : va_D A ws) : va_D A ws' := by
  have key : ∀ (k : Nat) (q : Nat × va_E), ws'[k]? = some q → ∃ q0, ws[k]? = some q0 ∧ q0.1 = q.1 := by
    intro k q hk
    have h1 := h k
    rw [hk] at h1
    cases h2 : ws[k]? with
    | none => rw [h2] at h1; cases h1
    | some q0 => rw [h2] at h1; exact ⟨q0, rfl, (Option.some.inj h1).symm⟩
  refine ⟨fun i j x y hi hj hxy => ?_, fun k q hk => ?_⟩
  · obtain ⟨x0, h1, h2⟩ := key i x hi
    obtain ⟨y0, h3, h4⟩ := key j y hj
    exact hD.1 i j x0 y0 h1 h3 (h2.trans (hxy.trans h4.symm))
  · obtain ⟨q0, h1, h2⟩ := key k q hk
    rw [← h2]
    exact hD.2 k q0 h1
theorem wsE_len {E : GE} {σ : PH} : (wsE E σ).length = E.2.2.2.2.1 := by simp [wsE]
theorem lift_P {D : va_G} {ca : Nat → ClassId} {tS : Nat} {A : Nat → Prop} {ad0 ad1 : Nat → Nat} {σ σ' : PH} {H : Heap} {LM : va_W} (h : va_P D vwCl (wsE (D, ad0, ca, tS, 148, A) σ ++ LM) H) (hs : ∀ q, q < 148 → σ'.1 q = σ.1 q ∧ σ'.2.1 q = σ.2.1 q ∧ σ'.2.2 q = σ.2.2 q) (had : ∀ q, q < 148 → ad1 q = ad0 q) (h6 : ∀ a b : Nat, σ.2.2 a b < 6) (hM : ∀ k, k < 26 → LM[k]? = some (ad1 (148 + k), ent (D, ad1, ca, tS, 174, A) σ' (148 + k))) : va_P D vwCl (wsE (D, ad1, ca, tS, 174, A) σ') H := by
  intro k q hk
  have hk2 : k < 174 := by
    have := (List.getElem?_eq_some_iff.mp hk).1
    rw [wsE_len] at this
    exact this
  rw [wsE_at (E := (D, ad1, ca, tS, 174, A)) hk2] at hk
  cases hk
  rcases Nat.lt_or_ge k 148 with hl | hl
  · have h1 := h k (ad0 k, ent (D, ad0, ca, tS, 148, A) σ k) (by rw [List.getElem?_append_left (by rw [wsE_len]; exact hl)]; exact wsE_at (E := (D, ad0, ca, tS, 148, A)) hl)
    have h2 := PE_all k hl D (ad0 k) H ad0 ad1 ca tS A (σ.1 k) (σ.2.1 k) (σ.2.2 k) had (fun b => h6 k b) h1
    obtain ⟨e1, e2, e3⟩ := hs k hl
    show va_at D vwCl (ad1 k, entA k (D, ad1, ca, tS, 174, A) (σ'.1 k) (σ'.2.1 k) (σ'.2.2 k)) H
    rw [e1, e2, e3, had k hl]
    exact h2
  · have hk3 : 148 + (k - 148) = k := by omega
    have h1 := hM (k - 148) (by omega)
    rw [hk3] at h1
    exact h k (ad1 k, ent (D, ad1, ca, tS, 174, A) σ' k) (by
      rw [List.getElem?_append_right (by rw [wsE_len]; exact hl), wsE_len]
      exact h1)
theorem lift_D {D : va_G} {ca : Nat → ClassId} {tS : Nat} {A : Nat → Prop} {ad0 ad1 : Nat → Nat} {σ σ' : PH} {LM : va_W} (h : va_D A (wsE (D, ad0, ca, tS, 148, A) σ ++ LM)) (hlen : LM.length = 26) (had : ∀ q, q < 148 → ad1 q = ad0 q) (hM : ∀ k, k < 26 → LM[k]? = some (ad1 (148 + k), ent (D, ad1, ca, tS, 174, A) σ' (148 + k))) : va_D A (wsE (D, ad1, ca, tS, 174, A) σ') := by
  refine va_D.addr (fun k => ?_) h
  rcases Nat.lt_or_ge k 174 with h1 | h1
  · rw [wsE_at (E := (D, ad1, ca, tS, 174, A)) h1]
    rcases Nat.lt_or_ge k 148 with hl | hl
    · rw [List.getElem?_append_left (by rw [wsE_len]; exact hl), wsE_at (E := (D, ad0, ca, tS, 148, A)) hl]
      show some (ad1 k) = some (ad0 k)
      rw [had k hl]
    · have hk3 : 148 + (k - 148) = k := by omega
      have h2 := hM (k - 148) (by omega)
      rw [hk3] at h2
      rw [List.getElem?_append_right (by rw [wsE_len]; exact hl), wsE_len]
      show _ = (LM[k - 148]?).map Prod.fst
      rw [h2]
  · rw [List.getElem?_eq_none (by rw [wsE_len]; exact h1), List.getElem?_eq_none (by rw [List.length_append, wsE_len, hlen]; exact h1)]
def sMI : List (Nat → Int32) := [(fun k => if k = 5 then (-9 : Int32) else 0), (upd (fun _ => 0) (0 : Int32).toNatClampNeg (1 : Int32)), (fun _ => 0), (fun _ => 0), (fun _ => 0), (fun _ => 0), (fun _ => 0), (fun _ => 0), (fun _ => 0), (fun _ => 0), (fun _ => 0), (fun _ => 0), (fun _ => 0), (fun _ => 0), (fun _ => 0), (fun _ => 0), (fun _ => 0), (fun _ => 0), (fun _ => 0), (fun _ => 0), (fun _ => 0), (fun _ => 0), (fun _ => 0), (fun _ => 0), (fun _ => 0), (fun _ => 0)]
def sML : List (Nat → Int64) := [(fun _ => 0), (fun _ => 0), (fun _ => 0), (fun _ => 0), (fun _ => 0), (fun _ => 0), (fun _ => 0), (fun _ => 0), (fun _ => 0), (fun _ => 0), (fun _ => 0), (fun _ => 0), (fun _ => 0), (fun _ => 0), (fun _ => 0), (fun _ => 0), (fun _ => 0), (fun _ => 0), (fun _ => 0), (fun _ => 0), (fun _ => 0), (fun _ => 0), (fun _ => 0), (fun _ => 0), (fun _ => 0), (fun _ => 0)]
/-- the pure heap with the reference's cells beside the class's, ahead of lays() -/
def mgH (σ : PH) : PH := (fun q => if q < 148 then σ.1 q else sMI.getD (q - 148) (fun _ => 0), fun q => if q < 148 then σ.2.1 q else sML.getD (q - 148) (fun _ => 0), fun q => if q < 148 then σ.2.2 q else fun _ => 0)
theorem mgH_lo (σ : PH) (q : Nat) (h : q < 148) : (mgH σ).1 q = σ.1 q ∧ (mgH σ).2.1 q = σ.2.1 q ∧ (mgH σ).2.2 q = σ.2.2 q := by
  simp [mgH, h]
theorem mgH_6 {σ : PH} (h6 : ∀ a b : Nat, σ.2.2 a b < 6) : ∀ a b : Nat, (mgH σ).2.2 a b < 6 := by
  intro a b
  by_cases h : a < 148
  · rw [(mgH_lo σ a h).2.2]; exact h6 a b
  · simp [mgH, h]
def fX12_rest (n : Nat) (s0 : PH) : Option (Unit × PH) :=
(bd (fX12_lays n s0) fun _ (s1 : PH) =>
(some ((), s1)))
def blM : List Value := [.null, .null, .int 0, .null, .int 0, .int 0, .null, .int 0, .null, .null, .null, .null, .null, .null, .null, .null, .null, .null, .null, .null, .null, .int 0, .int 0, .null, .int 0, .null, .null, .null, .null, .null, .null, .null, .long 0]
set_option maxRecDepth 100000 in
set_option maxHeartbeats 20000000 in
theorem kX12_init (l : Launch) (ca : Nat → ClassId) (D : va_G) (A : Nat → Prop) (tS : Nat) (ad0 : Nat → Nat) (h n : Nat) (s1 s2 : PH) (h6 : ∀ a b : Nat, s1.2.2 a b < 6) (hf : fX12_rest n (mgH s1) = some ((), s2)) : Met l yX12_init (wsOf yX12_init cX12_init 1 none) (rmC 7 25 42243 156) (va_Pc [.ref h] (CS D ca A tS (wsE (D, ad0, ca, tS, 148, A) s1) [(h, .inr (12, blM))])) (va_Qv (fun ad : Nat → Nat => ad 148 = h ∧ ∀ q, q < 148 → ad q = ad0 q) (fun ad t => WS (D, ad, ca, tS, 174, A) s2 t) A) 25 42243 A := by
  refine Cg.of (by decide) rfl (lv := [(0, .ref h)]) (Nat.le_of_ble_eq_true rfl) rfl (fun Γ hca hl hD hA hS C => ?_)
  subst hca; subst hl; subst hD; subst hA; subst hS
  generalize hws : wsE (gD Γ, ad0, gca Γ, gS Γ, 148, gA Γ) s1 = ws0
  unfold blM
  refine rc_aload_n C dX12_init_0 rfl 0 rfl ?_
  refine rc_obj C obX12_1 obi obc (Nat.le_of_ble_eq_true rfl) (Nat.le_of_ble_eq_true rfl) dX12_init_1 ?_
  refine rc_aload_n C dX12_init_4 rfl 0 rfl ?_
  refine rc_bipush C (v := (113 : Int32)) dX12_init_5 rfl ?_
  refine rc_newI C (N := 113) (fun q1 => [(h, .inr (12, [.null, .null, .int 0, .null, .int 0, .int 0, .null, .int 0, .null, .null, .null, .null, .null, .null, .null, .null, .null, .null, .null, .null, .null, .int 0, .int 0, .null, .int 0, .null, .null, .null, .null, .null, .null, .null, .long 0])), (q1, .inl (gca Γ 0, 113, .inl (fun _ => 0)))]) acI (by decide) (by decide) (Nat.le_of_ble_eq_true rfl) (fun _ => rfl) (Nat.le_of_ble_eq_true rfl) (Nat.le_of_ble_eq_true rfl) dX12_init_7 (fun q1 => ?_)
  refine rc_putF C [(h, .inr (12, [.ref q1, .null, .int 0, .null, .int 0, .int 0, .null, .int 0, .null, .null, .null, .null, .null, .null, .null, .null, .null, .null, .null, .null, .null, .int 0, .int 0, .null, .int 0, .null, .null, .null, .null, .null, .null, .null, .long 0])), (q1, .inl (gca Γ 0, 113, .inl (fun _ => 0)))] cfX12 flX12_7 (by decide) rfl rfl 0 rfl (fty := (.array .int)) rfl rfl rfl (Nat.le_of_ble_eq_true rfl) rfl dX12_init_9 ?_
  refine rc_aload_n C dX12_init_12 rfl 0 rfl ?_
  refine rc_sipush C (v := (452 : Int32)) dX12_init_13 rfl ?_
  refine rc_newI C (N := 452) (fun q2 => [(h, .inr (12, [.ref q1, .null, .int 0, .null, .int 0, .int 0, .null, .int 0, .null, .null, .null, .null, .null, .null, .null, .null, .null, .null, .null, .null, .null, .int 0, .int 0, .null, .int 0, .null, .null, .null, .null, .null, .null, .null, .long 0])), (q1, .inl (gca Γ 0, 113, .inl (fun _ => 0))), (q2, .inl (gca Γ 0, 452, .inl (fun _ => 0)))]) acI (by decide) (by decide) (Nat.le_of_ble_eq_true rfl) (fun _ => rfl) (Nat.le_of_ble_eq_true rfl) (Nat.le_of_ble_eq_true rfl) dX12_init_16 (fun q2 => ?_)
  refine rc_putF C [(h, .inr (12, [.ref q1, .ref q2, .int 0, .null, .int 0, .int 0, .null, .int 0, .null, .null, .null, .null, .null, .null, .null, .null, .null, .null, .null, .null, .null, .int 0, .int 0, .null, .int 0, .null, .null, .null, .null, .null, .null, .null, .long 0])), (q1, .inl (gca Γ 0, 113, .inl (fun _ => 0))), (q2, .inl (gca Γ 0, 452, .inl (fun _ => 0)))] cfX12 flX12_13 (by decide) rfl rfl 0 rfl (fty := (.array .int)) rfl rfl rfl (Nat.le_of_ble_eq_true rfl) rfl dX12_init_18 ?_
  refine rc_aload_n C dX12_init_21 rfl 0 rfl ?_
  refine rc_bipush C (v := (100 : Int32)) dX12_init_22 rfl ?_
  refine rc_newI C (N := 100) (fun q3 => [(h, .inr (12, [.ref q1, .ref q2, .int 0, .null, .int 0, .int 0, .null, .int 0, .null, .null, .null, .null, .null, .null, .null, .null, .null, .null, .null, .null, .null, .int 0, .int 0, .null, .int 0, .null, .null, .null, .null, .null, .null, .null, .long 0])), (q1, .inl (gca Γ 0, 113, .inl (fun _ => 0))), (q2, .inl (gca Γ 0, 452, .inl (fun _ => 0))), (q3, .inl (gca Γ 0, 100, .inl (fun _ => 0)))]) acI (by decide) (by decide) (Nat.le_of_ble_eq_true rfl) (fun _ => rfl) (Nat.le_of_ble_eq_true rfl) (Nat.le_of_ble_eq_true rfl) dX12_init_24 (fun q3 => ?_)
  refine rc_putF C [(h, .inr (12, [.ref q1, .ref q2, .int 0, .ref q3, .int 0, .int 0, .null, .int 0, .null, .null, .null, .null, .null, .null, .null, .null, .null, .null, .null, .null, .null, .int 0, .int 0, .null, .int 0, .null, .null, .null, .null, .null, .null, .null, .long 0])), (q1, .inl (gca Γ 0, 113, .inl (fun _ => 0))), (q2, .inl (gca Γ 0, 452, .inl (fun _ => 0))), (q3, .inl (gca Γ 0, 100, .inl (fun _ => 0)))] cfX12 flX12_16 (by decide) rfl rfl 0 rfl (fty := (.array .int)) rfl rfl rfl (Nat.le_of_ble_eq_true rfl) rfl dX12_init_26 ?_
  refine rc_aload_n C dX12_init_29 rfl 0 rfl ?_
  refine rc_bipush C (v := (-9 : Int32)) dX12_init_30 rfl ?_
  refine rc_put C [(h, .inr (12, [.ref q1, .ref q2, .int 0, .ref q3, .int 0, .int (-9 : Int32), .null, .int 0, .null, .null, .null, .null, .null, .null, .null, .null, .null, .null, .null, .null, .null, .int 0, .int 0, .null, .int 0, .null, .null, .null, .null, .null, .null, .null, .long 0])), (q1, .inl (gca Γ 0, 113, .inl (fun _ => 0))), (q2, .inl (gca Γ 0, 452, .inl (fun _ => 0))), (q3, .inl (gca Γ 0, 100, .inl (fun _ => 0)))] cfX12 flX12_19 (by decide) rfl 0 rfl (fty := .int) rfl rfl rfl (Nat.le_of_ble_eq_true rfl) rfl dX12_init_32 ?_
  refine rc_aload_n C dX12_init_35 rfl 0 rfl ?_
  refine rc_bipush C (v := (60 : Int32)) dX12_init_36 rfl ?_
  refine rc_newI C (N := 60) (fun q4 => [(h, .inr (12, [.ref q1, .ref q2, .int 0, .ref q3, .int 0, .int (-9 : Int32), .null, .int 0, .null, .null, .null, .null, .null, .null, .null, .null, .null, .null, .null, .null, .null, .int 0, .int 0, .null, .int 0, .null, .null, .null, .null, .null, .null, .null, .long 0])), (q1, .inl (gca Γ 0, 113, .inl (fun _ => 0))), (q2, .inl (gca Γ 0, 452, .inl (fun _ => 0))), (q3, .inl (gca Γ 0, 100, .inl (fun _ => 0))), (q4, .inl (gca Γ 0, 60, .inl (fun _ => 0)))]) acI (by decide) (by decide) (Nat.le_of_ble_eq_true rfl) (fun _ => rfl) (Nat.le_of_ble_eq_true rfl) (Nat.le_of_ble_eq_true rfl) dX12_init_38 (fun q4 => ?_)
  refine rc_putF C [(h, .inr (12, [.ref q1, .ref q2, .int 0, .ref q3, .int 0, .int (-9 : Int32), .ref q4, .int 0, .null, .null, .null, .null, .null, .null, .null, .null, .null, .null, .null, .null, .null, .int 0, .int 0, .null, .int 0, .null, .null, .null, .null, .null, .null, .null, .long 0])), (q1, .inl (gca Γ 0, 113, .inl (fun _ => 0))), (q2, .inl (gca Γ 0, 452, .inl (fun _ => 0))), (q3, .inl (gca Γ 0, 100, .inl (fun _ => 0))), (q4, .inl (gca Γ 0, 60, .inl (fun _ => 0)))] cfX12 flX12_23 (by decide) rfl rfl 0 rfl (fty := (.array .int)) rfl rfl rfl (Nat.le_of_ble_eq_true rfl) rfl dX12_init_40 ?_
  refine rc_aload_n C dX12_init_43 rfl 0 rfl ?_
  refine rc_bipush C (v := (6 : Int32)) dX12_init_44 rfl ?_
  refine rc_newZ C (N := 6) (fun q5 => [(h, .inr (12, [.ref q1, .ref q2, .int 0, .ref q3, .int 0, .int (-9 : Int32), .ref q4, .int 0, .null, .null, .null, .null, .null, .null, .null, .null, .null, .null, .null, .null, .null, .int 0, .int 0, .null, .int 0, .null, .null, .null, .null, .null, .null, .null, .long 0])), (q1, .inl (gca Γ 0, 113, .inl (fun _ => 0))), (q2, .inl (gca Γ 0, 452, .inl (fun _ => 0))), (q3, .inl (gca Γ 0, 100, .inl (fun _ => 0))), (q4, .inl (gca Γ 0, 60, .inl (fun _ => 0))), (q5, .inl (gca Γ 1, 6, .inl (fun _ => 0)))]) acZ (by decide) (by decide) (Nat.le_of_ble_eq_true rfl) (fun _ => rfl) (Nat.le_of_ble_eq_true rfl) (Nat.le_of_ble_eq_true rfl) dX12_init_46 (fun q5 => ?_)
  refine rc_putF C [(h, .inr (12, [.ref q1, .ref q2, .int 0, .ref q3, .int 0, .int (-9 : Int32), .ref q4, .int 0, .ref q5, .null, .null, .null, .null, .null, .null, .null, .null, .null, .null, .null, .null, .int 0, .int 0, .null, .int 0, .null, .null, .null, .null, .null, .null, .null, .long 0])), (q1, .inl (gca Γ 0, 113, .inl (fun _ => 0))), (q2, .inl (gca Γ 0, 452, .inl (fun _ => 0))), (q3, .inl (gca Γ 0, 100, .inl (fun _ => 0))), (q4, .inl (gca Γ 0, 60, .inl (fun _ => 0))), (q5, .inl (gca Γ 1, 6, .inl (fun _ => 0)))] cfX12 flX12_26 (by decide) rfl rfl 0 rfl (fty := (.array .boolean)) rfl rfl rfl (Nat.le_of_ble_eq_true rfl) rfl dX12_init_48 ?_
  refine rc_aload_n C dX12_init_51 rfl 0 rfl ?_
  refine rc_bipush C (v := (6 : Int32)) dX12_init_52 rfl ?_
  refine rc_newI C (N := 6) (fun q6 => [(h, .inr (12, [.ref q1, .ref q2, .int 0, .ref q3, .int 0, .int (-9 : Int32), .ref q4, .int 0, .ref q5, .null, .null, .null, .null, .null, .null, .null, .null, .null, .null, .null, .null, .int 0, .int 0, .null, .int 0, .null, .null, .null, .null, .null, .null, .null, .long 0])), (q1, .inl (gca Γ 0, 113, .inl (fun _ => 0))), (q2, .inl (gca Γ 0, 452, .inl (fun _ => 0))), (q3, .inl (gca Γ 0, 100, .inl (fun _ => 0))), (q4, .inl (gca Γ 0, 60, .inl (fun _ => 0))), (q5, .inl (gca Γ 1, 6, .inl (fun _ => 0))), (q6, .inl (gca Γ 0, 6, .inl (fun _ => 0)))]) acI (by decide) (by decide) (Nat.le_of_ble_eq_true rfl) (fun _ => rfl) (Nat.le_of_ble_eq_true rfl) (Nat.le_of_ble_eq_true rfl) dX12_init_54 (fun q6 => ?_)
  refine rc_putF C [(h, .inr (12, [.ref q1, .ref q2, .int 0, .ref q3, .int 0, .int (-9 : Int32), .ref q4, .int 0, .ref q5, .ref q6, .null, .null, .null, .null, .null, .null, .null, .null, .null, .null, .null, .int 0, .int 0, .null, .int 0, .null, .null, .null, .null, .null, .null, .null, .long 0])), (q1, .inl (gca Γ 0, 113, .inl (fun _ => 0))), (q2, .inl (gca Γ 0, 452, .inl (fun _ => 0))), (q3, .inl (gca Γ 0, 100, .inl (fun _ => 0))), (q4, .inl (gca Γ 0, 60, .inl (fun _ => 0))), (q5, .inl (gca Γ 1, 6, .inl (fun _ => 0))), (q6, .inl (gca Γ 0, 6, .inl (fun _ => 0)))] cfX12 flX12_30 (by decide) rfl rfl 0 rfl (fty := (.array .int)) rfl rfl rfl (Nat.le_of_ble_eq_true rfl) rfl dX12_init_56 ?_
  refine rc_aload_n C dX12_init_59 rfl 0 rfl ?_
  refine rc_bipush C (v := (6 : Int32)) dX12_init_60 rfl ?_
  refine rc_newZ C (N := 6) (fun q7 => [(h, .inr (12, [.ref q1, .ref q2, .int 0, .ref q3, .int 0, .int (-9 : Int32), .ref q4, .int 0, .ref q5, .ref q6, .null, .null, .null, .null, .null, .null, .null, .null, .null, .null, .null, .int 0, .int 0, .null, .int 0, .null, .null, .null, .null, .null, .null, .null, .long 0])), (q1, .inl (gca Γ 0, 113, .inl (fun _ => 0))), (q2, .inl (gca Γ 0, 452, .inl (fun _ => 0))), (q3, .inl (gca Γ 0, 100, .inl (fun _ => 0))), (q4, .inl (gca Γ 0, 60, .inl (fun _ => 0))), (q5, .inl (gca Γ 1, 6, .inl (fun _ => 0))), (q6, .inl (gca Γ 0, 6, .inl (fun _ => 0))), (q7, .inl (gca Γ 1, 6, .inl (fun _ => 0)))]) acZ (by decide) (by decide) (Nat.le_of_ble_eq_true rfl) (fun _ => rfl) (Nat.le_of_ble_eq_true rfl) (Nat.le_of_ble_eq_true rfl) dX12_init_62 (fun q7 => ?_)
  refine rc_putF C [(h, .inr (12, [.ref q1, .ref q2, .int 0, .ref q3, .int 0, .int (-9 : Int32), .ref q4, .int 0, .ref q5, .ref q6, .ref q7, .null, .null, .null, .null, .null, .null, .null, .null, .null, .null, .int 0, .int 0, .null, .int 0, .null, .null, .null, .null, .null, .null, .null, .long 0])), (q1, .inl (gca Γ 0, 113, .inl (fun _ => 0))), (q2, .inl (gca Γ 0, 452, .inl (fun _ => 0))), (q3, .inl (gca Γ 0, 100, .inl (fun _ => 0))), (q4, .inl (gca Γ 0, 60, .inl (fun _ => 0))), (q5, .inl (gca Γ 1, 6, .inl (fun _ => 0))), (q6, .inl (gca Γ 0, 6, .inl (fun _ => 0))), (q7, .inl (gca Γ 1, 6, .inl (fun _ => 0)))] cfX12 flX12_33 (by decide) rfl rfl 0 rfl (fty := (.array .boolean)) rfl rfl rfl (Nat.le_of_ble_eq_true rfl) rfl dX12_init_64 ?_
  refine rc_aload_n C dX12_init_67 rfl 0 rfl ?_
  refine rc_bipush C (v := (36 : Int32)) dX12_init_68 rfl ?_
  refine rc_newZ C (N := 36) (fun q8 => [(h, .inr (12, [.ref q1, .ref q2, .int 0, .ref q3, .int 0, .int (-9 : Int32), .ref q4, .int 0, .ref q5, .ref q6, .ref q7, .null, .null, .null, .null, .null, .null, .null, .null, .null, .null, .int 0, .int 0, .null, .int 0, .null, .null, .null, .null, .null, .null, .null, .long 0])), (q1, .inl (gca Γ 0, 113, .inl (fun _ => 0))), (q2, .inl (gca Γ 0, 452, .inl (fun _ => 0))), (q3, .inl (gca Γ 0, 100, .inl (fun _ => 0))), (q4, .inl (gca Γ 0, 60, .inl (fun _ => 0))), (q5, .inl (gca Γ 1, 6, .inl (fun _ => 0))), (q6, .inl (gca Γ 0, 6, .inl (fun _ => 0))), (q7, .inl (gca Γ 1, 6, .inl (fun _ => 0))), (q8, .inl (gca Γ 1, 36, .inl (fun _ => 0)))]) acZ (by decide) (by decide) (Nat.le_of_ble_eq_true rfl) (fun _ => rfl) (Nat.le_of_ble_eq_true rfl) (Nat.le_of_ble_eq_true rfl) dX12_init_70 (fun q8 => ?_)
  refine rc_putF C [(h, .inr (12, [.ref q1, .ref q2, .int 0, .ref q3, .int 0, .int (-9 : Int32), .ref q4, .int 0, .ref q5, .ref q6, .ref q7, .ref q8, .null, .null, .null, .null, .null, .null, .null, .null, .null, .int 0, .int 0, .null, .int 0, .null, .null, .null, .null, .null, .null, .null, .long 0])), (q1, .inl (gca Γ 0, 113, .inl (fun _ => 0))), (q2, .inl (gca Γ 0, 452, .inl (fun _ => 0))), (q3, .inl (gca Γ 0, 100, .inl (fun _ => 0))), (q4, .inl (gca Γ 0, 60, .inl (fun _ => 0))), (q5, .inl (gca Γ 1, 6, .inl (fun _ => 0))), (q6, .inl (gca Γ 0, 6, .inl (fun _ => 0))), (q7, .inl (gca Γ 1, 6, .inl (fun _ => 0))), (q8, .inl (gca Γ 1, 36, .inl (fun _ => 0)))] cfX12 flX12_36 (by decide) rfl rfl 0 rfl (fty := (.array .boolean)) rfl rfl rfl (Nat.le_of_ble_eq_true rfl) rfl dX12_init_72 ?_
  refine rc_aload_n C dX12_init_75 rfl 0 rfl ?_
  refine rc_bipush C (v := (36 : Int32)) dX12_init_76 rfl ?_
  refine rc_newZ C (N := 36) (fun q9 => [(h, .inr (12, [.ref q1, .ref q2, .int 0, .ref q3, .int 0, .int (-9 : Int32), .ref q4, .int 0, .ref q5, .ref q6, .ref q7, .ref q8, .null, .null, .null, .null, .null, .null, .null, .null, .null, .int 0, .int 0, .null, .int 0, .null, .null, .null, .null, .null, .null, .null, .long 0])), (q1, .inl (gca Γ 0, 113, .inl (fun _ => 0))), (q2, .inl (gca Γ 0, 452, .inl (fun _ => 0))), (q3, .inl (gca Γ 0, 100, .inl (fun _ => 0))), (q4, .inl (gca Γ 0, 60, .inl (fun _ => 0))), (q5, .inl (gca Γ 1, 6, .inl (fun _ => 0))), (q6, .inl (gca Γ 0, 6, .inl (fun _ => 0))), (q7, .inl (gca Γ 1, 6, .inl (fun _ => 0))), (q8, .inl (gca Γ 1, 36, .inl (fun _ => 0))), (q9, .inl (gca Γ 1, 36, .inl (fun _ => 0)))]) acZ (by decide) (by decide) (Nat.le_of_ble_eq_true rfl) (fun _ => rfl) (Nat.le_of_ble_eq_true rfl) (Nat.le_of_ble_eq_true rfl) dX12_init_78 (fun q9 => ?_)
  refine rc_putF C [(h, .inr (12, [.ref q1, .ref q2, .int 0, .ref q3, .int 0, .int (-9 : Int32), .ref q4, .int 0, .ref q5, .ref q6, .ref q7, .ref q8, .ref q9, .null, .null, .null, .null, .null, .null, .null, .null, .int 0, .int 0, .null, .int 0, .null, .null, .null, .null, .null, .null, .null, .long 0])), (q1, .inl (gca Γ 0, 113, .inl (fun _ => 0))), (q2, .inl (gca Γ 0, 452, .inl (fun _ => 0))), (q3, .inl (gca Γ 0, 100, .inl (fun _ => 0))), (q4, .inl (gca Γ 0, 60, .inl (fun _ => 0))), (q5, .inl (gca Γ 1, 6, .inl (fun _ => 0))), (q6, .inl (gca Γ 0, 6, .inl (fun _ => 0))), (q7, .inl (gca Γ 1, 6, .inl (fun _ => 0))), (q8, .inl (gca Γ 1, 36, .inl (fun _ => 0))), (q9, .inl (gca Γ 1, 36, .inl (fun _ => 0)))] cfX12 flX12_39 (by decide) rfl rfl 0 rfl (fty := (.array .boolean)) rfl rfl rfl (Nat.le_of_ble_eq_true rfl) rfl dX12_init_80 ?_
  refine rc_aload_n C dX12_init_83 rfl 0 rfl ?_
  refine rc_sipush C (v := (1296 : Int32)) dX12_init_84 rfl ?_
  refine rc_newZ C (N := 1296) (fun q10 => [(h, .inr (12, [.ref q1, .ref q2, .int 0, .ref q3, .int 0, .int (-9 : Int32), .ref q4, .int 0, .ref q5, .ref q6, .ref q7, .ref q8, .ref q9, .null, .null, .null, .null, .null, .null, .null, .null, .int 0, .int 0, .null, .int 0, .null, .null, .null, .null, .null, .null, .null, .long 0])), (q1, .inl (gca Γ 0, 113, .inl (fun _ => 0))), (q2, .inl (gca Γ 0, 452, .inl (fun _ => 0))), (q3, .inl (gca Γ 0, 100, .inl (fun _ => 0))), (q4, .inl (gca Γ 0, 60, .inl (fun _ => 0))), (q5, .inl (gca Γ 1, 6, .inl (fun _ => 0))), (q6, .inl (gca Γ 0, 6, .inl (fun _ => 0))), (q7, .inl (gca Γ 1, 6, .inl (fun _ => 0))), (q8, .inl (gca Γ 1, 36, .inl (fun _ => 0))), (q9, .inl (gca Γ 1, 36, .inl (fun _ => 0))), (q10, .inl (gca Γ 1, 1296, .inl (fun _ => 0)))]) acZ (by decide) (by decide) (Nat.le_of_ble_eq_true rfl) (fun _ => rfl) (Nat.le_of_ble_eq_true rfl) (Nat.le_of_ble_eq_true rfl) dX12_init_87 (fun q10 => ?_)
  refine rc_putF C [(h, .inr (12, [.ref q1, .ref q2, .int 0, .ref q3, .int 0, .int (-9 : Int32), .ref q4, .int 0, .ref q5, .ref q6, .ref q7, .ref q8, .ref q9, .ref q10, .null, .null, .null, .null, .null, .null, .null, .int 0, .int 0, .null, .int 0, .null, .null, .null, .null, .null, .null, .null, .long 0])), (q1, .inl (gca Γ 0, 113, .inl (fun _ => 0))), (q2, .inl (gca Γ 0, 452, .inl (fun _ => 0))), (q3, .inl (gca Γ 0, 100, .inl (fun _ => 0))), (q4, .inl (gca Γ 0, 60, .inl (fun _ => 0))), (q5, .inl (gca Γ 1, 6, .inl (fun _ => 0))), (q6, .inl (gca Γ 0, 6, .inl (fun _ => 0))), (q7, .inl (gca Γ 1, 6, .inl (fun _ => 0))), (q8, .inl (gca Γ 1, 36, .inl (fun _ => 0))), (q9, .inl (gca Γ 1, 36, .inl (fun _ => 0))), (q10, .inl (gca Γ 1, 1296, .inl (fun _ => 0)))] cfX12 flX12_42 (by decide) rfl rfl 0 rfl (fty := (.array .boolean)) rfl rfl rfl (Nat.le_of_ble_eq_true rfl) rfl dX12_init_89 ?_
  refine rc_aload_n C dX12_init_92 rfl 0 rfl ?_
  refine rc_sipush C (v := (1296 : Int32)) dX12_init_93 rfl ?_
  refine rc_newZ C (N := 1296) (fun q11 => [(h, .inr (12, [.ref q1, .ref q2, .int 0, .ref q3, .int 0, .int (-9 : Int32), .ref q4, .int 0, .ref q5, .ref q6, .ref q7, .ref q8, .ref q9, .ref q10, .null, .null, .null, .null, .null, .null, .null, .int 0, .int 0, .null, .int 0, .null, .null, .null, .null, .null, .null, .null, .long 0])), (q1, .inl (gca Γ 0, 113, .inl (fun _ => 0))), (q2, .inl (gca Γ 0, 452, .inl (fun _ => 0))), (q3, .inl (gca Γ 0, 100, .inl (fun _ => 0))), (q4, .inl (gca Γ 0, 60, .inl (fun _ => 0))), (q5, .inl (gca Γ 1, 6, .inl (fun _ => 0))), (q6, .inl (gca Γ 0, 6, .inl (fun _ => 0))), (q7, .inl (gca Γ 1, 6, .inl (fun _ => 0))), (q8, .inl (gca Γ 1, 36, .inl (fun _ => 0))), (q9, .inl (gca Γ 1, 36, .inl (fun _ => 0))), (q10, .inl (gca Γ 1, 1296, .inl (fun _ => 0))), (q11, .inl (gca Γ 1, 1296, .inl (fun _ => 0)))]) acZ (by decide) (by decide) (Nat.le_of_ble_eq_true rfl) (fun _ => rfl) (Nat.le_of_ble_eq_true rfl) (Nat.le_of_ble_eq_true rfl) dX12_init_96 (fun q11 => ?_)
  refine rc_putF C [(h, .inr (12, [.ref q1, .ref q2, .int 0, .ref q3, .int 0, .int (-9 : Int32), .ref q4, .int 0, .ref q5, .ref q6, .ref q7, .ref q8, .ref q9, .ref q10, .ref q11, .null, .null, .null, .null, .null, .null, .int 0, .int 0, .null, .int 0, .null, .null, .null, .null, .null, .null, .null, .long 0])), (q1, .inl (gca Γ 0, 113, .inl (fun _ => 0))), (q2, .inl (gca Γ 0, 452, .inl (fun _ => 0))), (q3, .inl (gca Γ 0, 100, .inl (fun _ => 0))), (q4, .inl (gca Γ 0, 60, .inl (fun _ => 0))), (q5, .inl (gca Γ 1, 6, .inl (fun _ => 0))), (q6, .inl (gca Γ 0, 6, .inl (fun _ => 0))), (q7, .inl (gca Γ 1, 6, .inl (fun _ => 0))), (q8, .inl (gca Γ 1, 36, .inl (fun _ => 0))), (q9, .inl (gca Γ 1, 36, .inl (fun _ => 0))), (q10, .inl (gca Γ 1, 1296, .inl (fun _ => 0))), (q11, .inl (gca Γ 1, 1296, .inl (fun _ => 0)))] cfX12 flX12_45 (by decide) rfl rfl 0 rfl (fty := (.array .boolean)) rfl rfl rfl (Nat.le_of_ble_eq_true rfl) rfl dX12_init_98 ?_
  refine rc_aload_n C dX12_init_101 rfl 0 rfl ?_
  refine rc_sipush C (v := (3456 : Int32)) dX12_init_102 rfl ?_
  refine rc_newZ C (N := 3456) (fun q12 => [(h, .inr (12, [.ref q1, .ref q2, .int 0, .ref q3, .int 0, .int (-9 : Int32), .ref q4, .int 0, .ref q5, .ref q6, .ref q7, .ref q8, .ref q9, .ref q10, .ref q11, .null, .null, .null, .null, .null, .null, .int 0, .int 0, .null, .int 0, .null, .null, .null, .null, .null, .null, .null, .long 0])), (q1, .inl (gca Γ 0, 113, .inl (fun _ => 0))), (q2, .inl (gca Γ 0, 452, .inl (fun _ => 0))), (q3, .inl (gca Γ 0, 100, .inl (fun _ => 0))), (q4, .inl (gca Γ 0, 60, .inl (fun _ => 0))), (q5, .inl (gca Γ 1, 6, .inl (fun _ => 0))), (q6, .inl (gca Γ 0, 6, .inl (fun _ => 0))), (q7, .inl (gca Γ 1, 6, .inl (fun _ => 0))), (q8, .inl (gca Γ 1, 36, .inl (fun _ => 0))), (q9, .inl (gca Γ 1, 36, .inl (fun _ => 0))), (q10, .inl (gca Γ 1, 1296, .inl (fun _ => 0))), (q11, .inl (gca Γ 1, 1296, .inl (fun _ => 0))), (q12, .inl (gca Γ 1, 3456, .inl (fun _ => 0)))]) acZ (by decide) (by decide) (Nat.le_of_ble_eq_true rfl) (fun _ => rfl) (Nat.le_of_ble_eq_true rfl) (Nat.le_of_ble_eq_true rfl) dX12_init_105 (fun q12 => ?_)
  refine rc_putF C [(h, .inr (12, [.ref q1, .ref q2, .int 0, .ref q3, .int 0, .int (-9 : Int32), .ref q4, .int 0, .ref q5, .ref q6, .ref q7, .ref q8, .ref q9, .ref q10, .ref q11, .ref q12, .null, .null, .null, .null, .null, .int 0, .int 0, .null, .int 0, .null, .null, .null, .null, .null, .null, .null, .long 0])), (q1, .inl (gca Γ 0, 113, .inl (fun _ => 0))), (q2, .inl (gca Γ 0, 452, .inl (fun _ => 0))), (q3, .inl (gca Γ 0, 100, .inl (fun _ => 0))), (q4, .inl (gca Γ 0, 60, .inl (fun _ => 0))), (q5, .inl (gca Γ 1, 6, .inl (fun _ => 0))), (q6, .inl (gca Γ 0, 6, .inl (fun _ => 0))), (q7, .inl (gca Γ 1, 6, .inl (fun _ => 0))), (q8, .inl (gca Γ 1, 36, .inl (fun _ => 0))), (q9, .inl (gca Γ 1, 36, .inl (fun _ => 0))), (q10, .inl (gca Γ 1, 1296, .inl (fun _ => 0))), (q11, .inl (gca Γ 1, 1296, .inl (fun _ => 0))), (q12, .inl (gca Γ 1, 3456, .inl (fun _ => 0)))] cfX12 flX12_48 (by decide) rfl rfl 0 rfl (fty := (.array .boolean)) rfl rfl rfl (Nat.le_of_ble_eq_true rfl) rfl dX12_init_107 ?_
  refine rc_aload_n C dX12_init_110 rfl 0 rfl ?_
  refine rc_sipush C (v := (216 : Int32)) dX12_init_111 rfl ?_
  refine rc_newZ C (N := 216) (fun q13 => [(h, .inr (12, [.ref q1, .ref q2, .int 0, .ref q3, .int 0, .int (-9 : Int32), .ref q4, .int 0, .ref q5, .ref q6, .ref q7, .ref q8, .ref q9, .ref q10, .ref q11, .ref q12, .null, .null, .null, .null, .null, .int 0, .int 0, .null, .int 0, .null, .null, .null, .null, .null, .null, .null, .long 0])), (q1, .inl (gca Γ 0, 113, .inl (fun _ => 0))), (q2, .inl (gca Γ 0, 452, .inl (fun _ => 0))), (q3, .inl (gca Γ 0, 100, .inl (fun _ => 0))), (q4, .inl (gca Γ 0, 60, .inl (fun _ => 0))), (q5, .inl (gca Γ 1, 6, .inl (fun _ => 0))), (q6, .inl (gca Γ 0, 6, .inl (fun _ => 0))), (q7, .inl (gca Γ 1, 6, .inl (fun _ => 0))), (q8, .inl (gca Γ 1, 36, .inl (fun _ => 0))), (q9, .inl (gca Γ 1, 36, .inl (fun _ => 0))), (q10, .inl (gca Γ 1, 1296, .inl (fun _ => 0))), (q11, .inl (gca Γ 1, 1296, .inl (fun _ => 0))), (q12, .inl (gca Γ 1, 3456, .inl (fun _ => 0))), (q13, .inl (gca Γ 1, 216, .inl (fun _ => 0)))]) acZ (by decide) (by decide) (Nat.le_of_ble_eq_true rfl) (fun _ => rfl) (Nat.le_of_ble_eq_true rfl) (Nat.le_of_ble_eq_true rfl) dX12_init_114 (fun q13 => ?_)
  refine rc_putF C [(h, .inr (12, [.ref q1, .ref q2, .int 0, .ref q3, .int 0, .int (-9 : Int32), .ref q4, .int 0, .ref q5, .ref q6, .ref q7, .ref q8, .ref q9, .ref q10, .ref q11, .ref q12, .ref q13, .null, .null, .null, .null, .int 0, .int 0, .null, .int 0, .null, .null, .null, .null, .null, .null, .null, .long 0])), (q1, .inl (gca Γ 0, 113, .inl (fun _ => 0))), (q2, .inl (gca Γ 0, 452, .inl (fun _ => 0))), (q3, .inl (gca Γ 0, 100, .inl (fun _ => 0))), (q4, .inl (gca Γ 0, 60, .inl (fun _ => 0))), (q5, .inl (gca Γ 1, 6, .inl (fun _ => 0))), (q6, .inl (gca Γ 0, 6, .inl (fun _ => 0))), (q7, .inl (gca Γ 1, 6, .inl (fun _ => 0))), (q8, .inl (gca Γ 1, 36, .inl (fun _ => 0))), (q9, .inl (gca Γ 1, 36, .inl (fun _ => 0))), (q10, .inl (gca Γ 1, 1296, .inl (fun _ => 0))), (q11, .inl (gca Γ 1, 1296, .inl (fun _ => 0))), (q12, .inl (gca Γ 1, 3456, .inl (fun _ => 0))), (q13, .inl (gca Γ 1, 216, .inl (fun _ => 0)))] cfX12 flX12_51 (by decide) rfl rfl 0 rfl (fty := (.array .boolean)) rfl rfl rfl (Nat.le_of_ble_eq_true rfl) rfl dX12_init_116 ?_
  refine rc_aload_n C dX12_init_119 rfl 0 rfl ?_
  refine rc_sipush C (v := (216 : Int32)) dX12_init_120 rfl ?_
  refine rc_newZ C (N := 216) (fun q14 => [(h, .inr (12, [.ref q1, .ref q2, .int 0, .ref q3, .int 0, .int (-9 : Int32), .ref q4, .int 0, .ref q5, .ref q6, .ref q7, .ref q8, .ref q9, .ref q10, .ref q11, .ref q12, .ref q13, .null, .null, .null, .null, .int 0, .int 0, .null, .int 0, .null, .null, .null, .null, .null, .null, .null, .long 0])), (q1, .inl (gca Γ 0, 113, .inl (fun _ => 0))), (q2, .inl (gca Γ 0, 452, .inl (fun _ => 0))), (q3, .inl (gca Γ 0, 100, .inl (fun _ => 0))), (q4, .inl (gca Γ 0, 60, .inl (fun _ => 0))), (q5, .inl (gca Γ 1, 6, .inl (fun _ => 0))), (q6, .inl (gca Γ 0, 6, .inl (fun _ => 0))), (q7, .inl (gca Γ 1, 6, .inl (fun _ => 0))), (q8, .inl (gca Γ 1, 36, .inl (fun _ => 0))), (q9, .inl (gca Γ 1, 36, .inl (fun _ => 0))), (q10, .inl (gca Γ 1, 1296, .inl (fun _ => 0))), (q11, .inl (gca Γ 1, 1296, .inl (fun _ => 0))), (q12, .inl (gca Γ 1, 3456, .inl (fun _ => 0))), (q13, .inl (gca Γ 1, 216, .inl (fun _ => 0))), (q14, .inl (gca Γ 1, 216, .inl (fun _ => 0)))]) acZ (by decide) (by decide) (Nat.le_of_ble_eq_true rfl) (fun _ => rfl) (Nat.le_of_ble_eq_true rfl) (Nat.le_of_ble_eq_true rfl) dX12_init_123 (fun q14 => ?_)
  refine rc_putF C [(h, .inr (12, [.ref q1, .ref q2, .int 0, .ref q3, .int 0, .int (-9 : Int32), .ref q4, .int 0, .ref q5, .ref q6, .ref q7, .ref q8, .ref q9, .ref q10, .ref q11, .ref q12, .ref q13, .ref q14, .null, .null, .null, .int 0, .int 0, .null, .int 0, .null, .null, .null, .null, .null, .null, .null, .long 0])), (q1, .inl (gca Γ 0, 113, .inl (fun _ => 0))), (q2, .inl (gca Γ 0, 452, .inl (fun _ => 0))), (q3, .inl (gca Γ 0, 100, .inl (fun _ => 0))), (q4, .inl (gca Γ 0, 60, .inl (fun _ => 0))), (q5, .inl (gca Γ 1, 6, .inl (fun _ => 0))), (q6, .inl (gca Γ 0, 6, .inl (fun _ => 0))), (q7, .inl (gca Γ 1, 6, .inl (fun _ => 0))), (q8, .inl (gca Γ 1, 36, .inl (fun _ => 0))), (q9, .inl (gca Γ 1, 36, .inl (fun _ => 0))), (q10, .inl (gca Γ 1, 1296, .inl (fun _ => 0))), (q11, .inl (gca Γ 1, 1296, .inl (fun _ => 0))), (q12, .inl (gca Γ 1, 3456, .inl (fun _ => 0))), (q13, .inl (gca Γ 1, 216, .inl (fun _ => 0))), (q14, .inl (gca Γ 1, 216, .inl (fun _ => 0)))] cfX12 flX12_54 (by decide) rfl rfl 0 rfl (fty := (.array .boolean)) rfl rfl rfl (Nat.le_of_ble_eq_true rfl) rfl dX12_init_125 ?_
  refine rc_aload_n C dX12_init_128 rfl 0 rfl ?_
  refine rc_sipush C (v := (216 : Int32)) dX12_init_129 rfl ?_
  refine rc_newZ C (N := 216) (fun q15 => [(h, .inr (12, [.ref q1, .ref q2, .int 0, .ref q3, .int 0, .int (-9 : Int32), .ref q4, .int 0, .ref q5, .ref q6, .ref q7, .ref q8, .ref q9, .ref q10, .ref q11, .ref q12, .ref q13, .ref q14, .null, .null, .null, .int 0, .int 0, .null, .int 0, .null, .null, .null, .null, .null, .null, .null, .long 0])), (q1, .inl (gca Γ 0, 113, .inl (fun _ => 0))), (q2, .inl (gca Γ 0, 452, .inl (fun _ => 0))), (q3, .inl (gca Γ 0, 100, .inl (fun _ => 0))), (q4, .inl (gca Γ 0, 60, .inl (fun _ => 0))), (q5, .inl (gca Γ 1, 6, .inl (fun _ => 0))), (q6, .inl (gca Γ 0, 6, .inl (fun _ => 0))), (q7, .inl (gca Γ 1, 6, .inl (fun _ => 0))), (q8, .inl (gca Γ 1, 36, .inl (fun _ => 0))), (q9, .inl (gca Γ 1, 36, .inl (fun _ => 0))), (q10, .inl (gca Γ 1, 1296, .inl (fun _ => 0))), (q11, .inl (gca Γ 1, 1296, .inl (fun _ => 0))), (q12, .inl (gca Γ 1, 3456, .inl (fun _ => 0))), (q13, .inl (gca Γ 1, 216, .inl (fun _ => 0))), (q14, .inl (gca Γ 1, 216, .inl (fun _ => 0))), (q15, .inl (gca Γ 1, 216, .inl (fun _ => 0)))]) acZ (by decide) (by decide) (Nat.le_of_ble_eq_true rfl) (fun _ => rfl) (Nat.le_of_ble_eq_true rfl) (Nat.le_of_ble_eq_true rfl) dX12_init_132 (fun q15 => ?_)
  refine rc_putF C [(h, .inr (12, [.ref q1, .ref q2, .int 0, .ref q3, .int 0, .int (-9 : Int32), .ref q4, .int 0, .ref q5, .ref q6, .ref q7, .ref q8, .ref q9, .ref q10, .ref q11, .ref q12, .ref q13, .ref q14, .ref q15, .null, .null, .int 0, .int 0, .null, .int 0, .null, .null, .null, .null, .null, .null, .null, .long 0])), (q1, .inl (gca Γ 0, 113, .inl (fun _ => 0))), (q2, .inl (gca Γ 0, 452, .inl (fun _ => 0))), (q3, .inl (gca Γ 0, 100, .inl (fun _ => 0))), (q4, .inl (gca Γ 0, 60, .inl (fun _ => 0))), (q5, .inl (gca Γ 1, 6, .inl (fun _ => 0))), (q6, .inl (gca Γ 0, 6, .inl (fun _ => 0))), (q7, .inl (gca Γ 1, 6, .inl (fun _ => 0))), (q8, .inl (gca Γ 1, 36, .inl (fun _ => 0))), (q9, .inl (gca Γ 1, 36, .inl (fun _ => 0))), (q10, .inl (gca Γ 1, 1296, .inl (fun _ => 0))), (q11, .inl (gca Γ 1, 1296, .inl (fun _ => 0))), (q12, .inl (gca Γ 1, 3456, .inl (fun _ => 0))), (q13, .inl (gca Γ 1, 216, .inl (fun _ => 0))), (q14, .inl (gca Γ 1, 216, .inl (fun _ => 0))), (q15, .inl (gca Γ 1, 216, .inl (fun _ => 0)))] cfX12 flX12_57 (by decide) rfl rfl 0 rfl (fty := (.array .boolean)) rfl rfl rfl (Nat.le_of_ble_eq_true rfl) rfl dX12_init_134 ?_
  refine rc_aload_n C dX12_init_137 rfl 0 rfl ?_
  refine rc_sipush C (v := (24192 : Int32)) dX12_init_138 rfl ?_
  refine rc_newZ C (N := 24192) (fun q16 => [(h, .inr (12, [.ref q1, .ref q2, .int 0, .ref q3, .int 0, .int (-9 : Int32), .ref q4, .int 0, .ref q5, .ref q6, .ref q7, .ref q8, .ref q9, .ref q10, .ref q11, .ref q12, .ref q13, .ref q14, .ref q15, .null, .null, .int 0, .int 0, .null, .int 0, .null, .null, .null, .null, .null, .null, .null, .long 0])), (q1, .inl (gca Γ 0, 113, .inl (fun _ => 0))), (q2, .inl (gca Γ 0, 452, .inl (fun _ => 0))), (q3, .inl (gca Γ 0, 100, .inl (fun _ => 0))), (q4, .inl (gca Γ 0, 60, .inl (fun _ => 0))), (q5, .inl (gca Γ 1, 6, .inl (fun _ => 0))), (q6, .inl (gca Γ 0, 6, .inl (fun _ => 0))), (q7, .inl (gca Γ 1, 6, .inl (fun _ => 0))), (q8, .inl (gca Γ 1, 36, .inl (fun _ => 0))), (q9, .inl (gca Γ 1, 36, .inl (fun _ => 0))), (q10, .inl (gca Γ 1, 1296, .inl (fun _ => 0))), (q11, .inl (gca Γ 1, 1296, .inl (fun _ => 0))), (q12, .inl (gca Γ 1, 3456, .inl (fun _ => 0))), (q13, .inl (gca Γ 1, 216, .inl (fun _ => 0))), (q14, .inl (gca Γ 1, 216, .inl (fun _ => 0))), (q15, .inl (gca Γ 1, 216, .inl (fun _ => 0))), (q16, .inl (gca Γ 1, 24192, .inl (fun _ => 0)))]) acZ (by decide) (by decide) (Nat.le_of_ble_eq_true rfl) (fun _ => rfl) (Nat.le_of_ble_eq_true rfl) (Nat.le_of_ble_eq_true rfl) dX12_init_141 (fun q16 => ?_)
  refine rc_putF C [(h, .inr (12, [.ref q1, .ref q2, .int 0, .ref q3, .int 0, .int (-9 : Int32), .ref q4, .int 0, .ref q5, .ref q6, .ref q7, .ref q8, .ref q9, .ref q10, .ref q11, .ref q12, .ref q13, .ref q14, .ref q15, .ref q16, .null, .int 0, .int 0, .null, .int 0, .null, .null, .null, .null, .null, .null, .null, .long 0])), (q1, .inl (gca Γ 0, 113, .inl (fun _ => 0))), (q2, .inl (gca Γ 0, 452, .inl (fun _ => 0))), (q3, .inl (gca Γ 0, 100, .inl (fun _ => 0))), (q4, .inl (gca Γ 0, 60, .inl (fun _ => 0))), (q5, .inl (gca Γ 1, 6, .inl (fun _ => 0))), (q6, .inl (gca Γ 0, 6, .inl (fun _ => 0))), (q7, .inl (gca Γ 1, 6, .inl (fun _ => 0))), (q8, .inl (gca Γ 1, 36, .inl (fun _ => 0))), (q9, .inl (gca Γ 1, 36, .inl (fun _ => 0))), (q10, .inl (gca Γ 1, 1296, .inl (fun _ => 0))), (q11, .inl (gca Γ 1, 1296, .inl (fun _ => 0))), (q12, .inl (gca Γ 1, 3456, .inl (fun _ => 0))), (q13, .inl (gca Γ 1, 216, .inl (fun _ => 0))), (q14, .inl (gca Γ 1, 216, .inl (fun _ => 0))), (q15, .inl (gca Γ 1, 216, .inl (fun _ => 0))), (q16, .inl (gca Γ 1, 24192, .inl (fun _ => 0)))] cfX12 flX12_60 (by decide) rfl rfl 0 rfl (fty := (.array .boolean)) rfl rfl rfl (Nat.le_of_ble_eq_true rfl) rfl dX12_init_143 ?_
  refine rc_aload_n C dX12_init_146 rfl 0 rfl ?_
  refine rc_bipush C (v := (113 : Int32)) dX12_init_147 rfl ?_
  refine rc_newI C (N := 113) (fun q17 => [(h, .inr (12, [.ref q1, .ref q2, .int 0, .ref q3, .int 0, .int (-9 : Int32), .ref q4, .int 0, .ref q5, .ref q6, .ref q7, .ref q8, .ref q9, .ref q10, .ref q11, .ref q12, .ref q13, .ref q14, .ref q15, .ref q16, .null, .int 0, .int 0, .null, .int 0, .null, .null, .null, .null, .null, .null, .null, .long 0])), (q1, .inl (gca Γ 0, 113, .inl (fun _ => 0))), (q2, .inl (gca Γ 0, 452, .inl (fun _ => 0))), (q3, .inl (gca Γ 0, 100, .inl (fun _ => 0))), (q4, .inl (gca Γ 0, 60, .inl (fun _ => 0))), (q5, .inl (gca Γ 1, 6, .inl (fun _ => 0))), (q6, .inl (gca Γ 0, 6, .inl (fun _ => 0))), (q7, .inl (gca Γ 1, 6, .inl (fun _ => 0))), (q8, .inl (gca Γ 1, 36, .inl (fun _ => 0))), (q9, .inl (gca Γ 1, 36, .inl (fun _ => 0))), (q10, .inl (gca Γ 1, 1296, .inl (fun _ => 0))), (q11, .inl (gca Γ 1, 1296, .inl (fun _ => 0))), (q12, .inl (gca Γ 1, 3456, .inl (fun _ => 0))), (q13, .inl (gca Γ 1, 216, .inl (fun _ => 0))), (q14, .inl (gca Γ 1, 216, .inl (fun _ => 0))), (q15, .inl (gca Γ 1, 216, .inl (fun _ => 0))), (q16, .inl (gca Γ 1, 24192, .inl (fun _ => 0))), (q17, .inl (gca Γ 0, 113, .inl (fun _ => 0)))]) acI (by decide) (by decide) (Nat.le_of_ble_eq_true rfl) (fun _ => rfl) (Nat.le_of_ble_eq_true rfl) (Nat.le_of_ble_eq_true rfl) dX12_init_149 (fun q17 => ?_)
  refine rc_putF C [(h, .inr (12, [.ref q1, .ref q2, .int 0, .ref q3, .int 0, .int (-9 : Int32), .ref q4, .int 0, .ref q5, .ref q6, .ref q7, .ref q8, .ref q9, .ref q10, .ref q11, .ref q12, .ref q13, .ref q14, .ref q15, .ref q16, .ref q17, .int 0, .int 0, .null, .int 0, .null, .null, .null, .null, .null, .null, .null, .long 0])), (q1, .inl (gca Γ 0, 113, .inl (fun _ => 0))), (q2, .inl (gca Γ 0, 452, .inl (fun _ => 0))), (q3, .inl (gca Γ 0, 100, .inl (fun _ => 0))), (q4, .inl (gca Γ 0, 60, .inl (fun _ => 0))), (q5, .inl (gca Γ 1, 6, .inl (fun _ => 0))), (q6, .inl (gca Γ 0, 6, .inl (fun _ => 0))), (q7, .inl (gca Γ 1, 6, .inl (fun _ => 0))), (q8, .inl (gca Γ 1, 36, .inl (fun _ => 0))), (q9, .inl (gca Γ 1, 36, .inl (fun _ => 0))), (q10, .inl (gca Γ 1, 1296, .inl (fun _ => 0))), (q11, .inl (gca Γ 1, 1296, .inl (fun _ => 0))), (q12, .inl (gca Γ 1, 3456, .inl (fun _ => 0))), (q13, .inl (gca Γ 1, 216, .inl (fun _ => 0))), (q14, .inl (gca Γ 1, 216, .inl (fun _ => 0))), (q15, .inl (gca Γ 1, 216, .inl (fun _ => 0))), (q16, .inl (gca Γ 1, 24192, .inl (fun _ => 0))), (q17, .inl (gca Γ 0, 113, .inl (fun _ => 0)))] cfX12 flX12_63 (by decide) rfl rfl 0 rfl (fty := (.array .int)) rfl rfl rfl (Nat.le_of_ble_eq_true rfl) rfl dX12_init_151 ?_
  refine rc_aload_n C dX12_init_154 rfl 0 rfl ?_
  refine rc_bipush C (v := (8 : Int32)) dX12_init_155 rfl ?_
  refine rc_newI C (N := 8) (fun q18 => [(h, .inr (12, [.ref q1, .ref q2, .int 0, .ref q3, .int 0, .int (-9 : Int32), .ref q4, .int 0, .ref q5, .ref q6, .ref q7, .ref q8, .ref q9, .ref q10, .ref q11, .ref q12, .ref q13, .ref q14, .ref q15, .ref q16, .ref q17, .int 0, .int 0, .null, .int 0, .null, .null, .null, .null, .null, .null, .null, .long 0])), (q1, .inl (gca Γ 0, 113, .inl (fun _ => 0))), (q2, .inl (gca Γ 0, 452, .inl (fun _ => 0))), (q3, .inl (gca Γ 0, 100, .inl (fun _ => 0))), (q4, .inl (gca Γ 0, 60, .inl (fun _ => 0))), (q5, .inl (gca Γ 1, 6, .inl (fun _ => 0))), (q6, .inl (gca Γ 0, 6, .inl (fun _ => 0))), (q7, .inl (gca Γ 1, 6, .inl (fun _ => 0))), (q8, .inl (gca Γ 1, 36, .inl (fun _ => 0))), (q9, .inl (gca Γ 1, 36, .inl (fun _ => 0))), (q10, .inl (gca Γ 1, 1296, .inl (fun _ => 0))), (q11, .inl (gca Γ 1, 1296, .inl (fun _ => 0))), (q12, .inl (gca Γ 1, 3456, .inl (fun _ => 0))), (q13, .inl (gca Γ 1, 216, .inl (fun _ => 0))), (q14, .inl (gca Γ 1, 216, .inl (fun _ => 0))), (q15, .inl (gca Γ 1, 216, .inl (fun _ => 0))), (q16, .inl (gca Γ 1, 24192, .inl (fun _ => 0))), (q17, .inl (gca Γ 0, 113, .inl (fun _ => 0))), (q18, .inl (gca Γ 0, 8, .inl (fun _ => 0)))]) acI (by decide) (by decide) (Nat.le_of_ble_eq_true rfl) (fun _ => rfl) (Nat.le_of_ble_eq_true rfl) (Nat.le_of_ble_eq_true rfl) dX12_init_157 (fun q18 => ?_)
  refine rc_putF C [(h, .inr (12, [.ref q1, .ref q2, .int 0, .ref q3, .int 0, .int (-9 : Int32), .ref q4, .int 0, .ref q5, .ref q6, .ref q7, .ref q8, .ref q9, .ref q10, .ref q11, .ref q12, .ref q13, .ref q14, .ref q15, .ref q16, .ref q17, .int 0, .int 0, .ref q18, .int 0, .null, .null, .null, .null, .null, .null, .null, .long 0])), (q1, .inl (gca Γ 0, 113, .inl (fun _ => 0))), (q2, .inl (gca Γ 0, 452, .inl (fun _ => 0))), (q3, .inl (gca Γ 0, 100, .inl (fun _ => 0))), (q4, .inl (gca Γ 0, 60, .inl (fun _ => 0))), (q5, .inl (gca Γ 1, 6, .inl (fun _ => 0))), (q6, .inl (gca Γ 0, 6, .inl (fun _ => 0))), (q7, .inl (gca Γ 1, 6, .inl (fun _ => 0))), (q8, .inl (gca Γ 1, 36, .inl (fun _ => 0))), (q9, .inl (gca Γ 1, 36, .inl (fun _ => 0))), (q10, .inl (gca Γ 1, 1296, .inl (fun _ => 0))), (q11, .inl (gca Γ 1, 1296, .inl (fun _ => 0))), (q12, .inl (gca Γ 1, 3456, .inl (fun _ => 0))), (q13, .inl (gca Γ 1, 216, .inl (fun _ => 0))), (q14, .inl (gca Γ 1, 216, .inl (fun _ => 0))), (q15, .inl (gca Γ 1, 216, .inl (fun _ => 0))), (q16, .inl (gca Γ 1, 24192, .inl (fun _ => 0))), (q17, .inl (gca Γ 0, 113, .inl (fun _ => 0))), (q18, .inl (gca Γ 0, 8, .inl (fun _ => 0)))] cfX12 flX12_66 (by decide) rfl rfl 0 rfl (fty := (.array .int)) rfl rfl rfl (Nat.le_of_ble_eq_true rfl) rfl dX12_init_159 ?_
  refine rc_aload_n C dX12_init_162 rfl 0 rfl ?_
  refine rc_sipush C (v := (900 : Int32)) dX12_init_163 rfl ?_
  refine rc_newI C (N := 900) (fun q19 => [(h, .inr (12, [.ref q1, .ref q2, .int 0, .ref q3, .int 0, .int (-9 : Int32), .ref q4, .int 0, .ref q5, .ref q6, .ref q7, .ref q8, .ref q9, .ref q10, .ref q11, .ref q12, .ref q13, .ref q14, .ref q15, .ref q16, .ref q17, .int 0, .int 0, .ref q18, .int 0, .null, .null, .null, .null, .null, .null, .null, .long 0])), (q1, .inl (gca Γ 0, 113, .inl (fun _ => 0))), (q2, .inl (gca Γ 0, 452, .inl (fun _ => 0))), (q3, .inl (gca Γ 0, 100, .inl (fun _ => 0))), (q4, .inl (gca Γ 0, 60, .inl (fun _ => 0))), (q5, .inl (gca Γ 1, 6, .inl (fun _ => 0))), (q6, .inl (gca Γ 0, 6, .inl (fun _ => 0))), (q7, .inl (gca Γ 1, 6, .inl (fun _ => 0))), (q8, .inl (gca Γ 1, 36, .inl (fun _ => 0))), (q9, .inl (gca Γ 1, 36, .inl (fun _ => 0))), (q10, .inl (gca Γ 1, 1296, .inl (fun _ => 0))), (q11, .inl (gca Γ 1, 1296, .inl (fun _ => 0))), (q12, .inl (gca Γ 1, 3456, .inl (fun _ => 0))), (q13, .inl (gca Γ 1, 216, .inl (fun _ => 0))), (q14, .inl (gca Γ 1, 216, .inl (fun _ => 0))), (q15, .inl (gca Γ 1, 216, .inl (fun _ => 0))), (q16, .inl (gca Γ 1, 24192, .inl (fun _ => 0))), (q17, .inl (gca Γ 0, 113, .inl (fun _ => 0))), (q18, .inl (gca Γ 0, 8, .inl (fun _ => 0))), (q19, .inl (gca Γ 0, 900, .inl (fun _ => 0)))]) acI (by decide) (by decide) (Nat.le_of_ble_eq_true rfl) (fun _ => rfl) (Nat.le_of_ble_eq_true rfl) (Nat.le_of_ble_eq_true rfl) dX12_init_166 (fun q19 => ?_)
  refine rc_putF C [(h, .inr (12, [.ref q1, .ref q2, .int 0, .ref q3, .int 0, .int (-9 : Int32), .ref q4, .int 0, .ref q5, .ref q6, .ref q7, .ref q8, .ref q9, .ref q10, .ref q11, .ref q12, .ref q13, .ref q14, .ref q15, .ref q16, .ref q17, .int 0, .int 0, .ref q18, .int 0, .ref q19, .null, .null, .null, .null, .null, .null, .long 0])), (q1, .inl (gca Γ 0, 113, .inl (fun _ => 0))), (q2, .inl (gca Γ 0, 452, .inl (fun _ => 0))), (q3, .inl (gca Γ 0, 100, .inl (fun _ => 0))), (q4, .inl (gca Γ 0, 60, .inl (fun _ => 0))), (q5, .inl (gca Γ 1, 6, .inl (fun _ => 0))), (q6, .inl (gca Γ 0, 6, .inl (fun _ => 0))), (q7, .inl (gca Γ 1, 6, .inl (fun _ => 0))), (q8, .inl (gca Γ 1, 36, .inl (fun _ => 0))), (q9, .inl (gca Γ 1, 36, .inl (fun _ => 0))), (q10, .inl (gca Γ 1, 1296, .inl (fun _ => 0))), (q11, .inl (gca Γ 1, 1296, .inl (fun _ => 0))), (q12, .inl (gca Γ 1, 3456, .inl (fun _ => 0))), (q13, .inl (gca Γ 1, 216, .inl (fun _ => 0))), (q14, .inl (gca Γ 1, 216, .inl (fun _ => 0))), (q15, .inl (gca Γ 1, 216, .inl (fun _ => 0))), (q16, .inl (gca Γ 1, 24192, .inl (fun _ => 0))), (q17, .inl (gca Γ 0, 113, .inl (fun _ => 0))), (q18, .inl (gca Γ 0, 8, .inl (fun _ => 0))), (q19, .inl (gca Γ 0, 900, .inl (fun _ => 0)))] cfX12 flX12_69 (by decide) rfl rfl 0 rfl (fty := (.array .int)) rfl rfl rfl (Nat.le_of_ble_eq_true rfl) rfl dX12_init_168 ?_
  refine rc_aload_n C dX12_init_171 rfl 0 rfl ?_
  refine rc_sipush C (v := (486 : Int32)) dX12_init_172 rfl ?_
  refine rc_newJ C (N := 486) (fun q20 => [(h, .inr (12, [.ref q1, .ref q2, .int 0, .ref q3, .int 0, .int (-9 : Int32), .ref q4, .int 0, .ref q5, .ref q6, .ref q7, .ref q8, .ref q9, .ref q10, .ref q11, .ref q12, .ref q13, .ref q14, .ref q15, .ref q16, .ref q17, .int 0, .int 0, .ref q18, .int 0, .ref q19, .null, .null, .null, .null, .null, .null, .long 0])), (q1, .inl (gca Γ 0, 113, .inl (fun _ => 0))), (q2, .inl (gca Γ 0, 452, .inl (fun _ => 0))), (q3, .inl (gca Γ 0, 100, .inl (fun _ => 0))), (q4, .inl (gca Γ 0, 60, .inl (fun _ => 0))), (q5, .inl (gca Γ 1, 6, .inl (fun _ => 0))), (q6, .inl (gca Γ 0, 6, .inl (fun _ => 0))), (q7, .inl (gca Γ 1, 6, .inl (fun _ => 0))), (q8, .inl (gca Γ 1, 36, .inl (fun _ => 0))), (q9, .inl (gca Γ 1, 36, .inl (fun _ => 0))), (q10, .inl (gca Γ 1, 1296, .inl (fun _ => 0))), (q11, .inl (gca Γ 1, 1296, .inl (fun _ => 0))), (q12, .inl (gca Γ 1, 3456, .inl (fun _ => 0))), (q13, .inl (gca Γ 1, 216, .inl (fun _ => 0))), (q14, .inl (gca Γ 1, 216, .inl (fun _ => 0))), (q15, .inl (gca Γ 1, 216, .inl (fun _ => 0))), (q16, .inl (gca Γ 1, 24192, .inl (fun _ => 0))), (q17, .inl (gca Γ 0, 113, .inl (fun _ => 0))), (q18, .inl (gca Γ 0, 8, .inl (fun _ => 0))), (q19, .inl (gca Γ 0, 900, .inl (fun _ => 0))), (q20, .inl (gca Γ 2, 486, .inr (.inl (fun _ => 0))))]) acJ (by decide) (by decide) (Nat.le_of_ble_eq_true rfl) (fun _ => rfl) (Nat.le_of_ble_eq_true rfl) (Nat.le_of_ble_eq_true rfl) dX12_init_175 (fun q20 => ?_)
  refine rc_putF C [(h, .inr (12, [.ref q1, .ref q2, .int 0, .ref q3, .int 0, .int (-9 : Int32), .ref q4, .int 0, .ref q5, .ref q6, .ref q7, .ref q8, .ref q9, .ref q10, .ref q11, .ref q12, .ref q13, .ref q14, .ref q15, .ref q16, .ref q17, .int 0, .int 0, .ref q18, .int 0, .ref q19, .ref q20, .null, .null, .null, .null, .null, .long 0])), (q1, .inl (gca Γ 0, 113, .inl (fun _ => 0))), (q2, .inl (gca Γ 0, 452, .inl (fun _ => 0))), (q3, .inl (gca Γ 0, 100, .inl (fun _ => 0))), (q4, .inl (gca Γ 0, 60, .inl (fun _ => 0))), (q5, .inl (gca Γ 1, 6, .inl (fun _ => 0))), (q6, .inl (gca Γ 0, 6, .inl (fun _ => 0))), (q7, .inl (gca Γ 1, 6, .inl (fun _ => 0))), (q8, .inl (gca Γ 1, 36, .inl (fun _ => 0))), (q9, .inl (gca Γ 1, 36, .inl (fun _ => 0))), (q10, .inl (gca Γ 1, 1296, .inl (fun _ => 0))), (q11, .inl (gca Γ 1, 1296, .inl (fun _ => 0))), (q12, .inl (gca Γ 1, 3456, .inl (fun _ => 0))), (q13, .inl (gca Γ 1, 216, .inl (fun _ => 0))), (q14, .inl (gca Γ 1, 216, .inl (fun _ => 0))), (q15, .inl (gca Γ 1, 216, .inl (fun _ => 0))), (q16, .inl (gca Γ 1, 24192, .inl (fun _ => 0))), (q17, .inl (gca Γ 0, 113, .inl (fun _ => 0))), (q18, .inl (gca Γ 0, 8, .inl (fun _ => 0))), (q19, .inl (gca Γ 0, 900, .inl (fun _ => 0))), (q20, .inl (gca Γ 2, 486, .inr (.inl (fun _ => 0))))] cfX12 flX12_72 (by decide) rfl rfl 0 rfl (fty := (.array .long)) rfl rfl rfl (Nat.le_of_ble_eq_true rfl) rfl dX12_init_177 ?_
  refine rc_aload_n C dX12_init_180 rfl 0 rfl ?_
  refine rc_bipush C (v := (9 : Int32)) dX12_init_181 rfl ?_
  refine rc_newJ C (N := 9) (fun q21 => [(h, .inr (12, [.ref q1, .ref q2, .int 0, .ref q3, .int 0, .int (-9 : Int32), .ref q4, .int 0, .ref q5, .ref q6, .ref q7, .ref q8, .ref q9, .ref q10, .ref q11, .ref q12, .ref q13, .ref q14, .ref q15, .ref q16, .ref q17, .int 0, .int 0, .ref q18, .int 0, .ref q19, .ref q20, .null, .null, .null, .null, .null, .long 0])), (q1, .inl (gca Γ 0, 113, .inl (fun _ => 0))), (q2, .inl (gca Γ 0, 452, .inl (fun _ => 0))), (q3, .inl (gca Γ 0, 100, .inl (fun _ => 0))), (q4, .inl (gca Γ 0, 60, .inl (fun _ => 0))), (q5, .inl (gca Γ 1, 6, .inl (fun _ => 0))), (q6, .inl (gca Γ 0, 6, .inl (fun _ => 0))), (q7, .inl (gca Γ 1, 6, .inl (fun _ => 0))), (q8, .inl (gca Γ 1, 36, .inl (fun _ => 0))), (q9, .inl (gca Γ 1, 36, .inl (fun _ => 0))), (q10, .inl (gca Γ 1, 1296, .inl (fun _ => 0))), (q11, .inl (gca Γ 1, 1296, .inl (fun _ => 0))), (q12, .inl (gca Γ 1, 3456, .inl (fun _ => 0))), (q13, .inl (gca Γ 1, 216, .inl (fun _ => 0))), (q14, .inl (gca Γ 1, 216, .inl (fun _ => 0))), (q15, .inl (gca Γ 1, 216, .inl (fun _ => 0))), (q16, .inl (gca Γ 1, 24192, .inl (fun _ => 0))), (q17, .inl (gca Γ 0, 113, .inl (fun _ => 0))), (q18, .inl (gca Γ 0, 8, .inl (fun _ => 0))), (q19, .inl (gca Γ 0, 900, .inl (fun _ => 0))), (q20, .inl (gca Γ 2, 486, .inr (.inl (fun _ => 0)))), (q21, .inl (gca Γ 2, 9, .inr (.inl (fun _ => 0))))]) acJ (by decide) (by decide) (Nat.le_of_ble_eq_true rfl) (fun _ => rfl) (Nat.le_of_ble_eq_true rfl) (Nat.le_of_ble_eq_true rfl) dX12_init_183 (fun q21 => ?_)
  refine rc_putF C [(h, .inr (12, [.ref q1, .ref q2, .int 0, .ref q3, .int 0, .int (-9 : Int32), .ref q4, .int 0, .ref q5, .ref q6, .ref q7, .ref q8, .ref q9, .ref q10, .ref q11, .ref q12, .ref q13, .ref q14, .ref q15, .ref q16, .ref q17, .int 0, .int 0, .ref q18, .int 0, .ref q19, .ref q20, .ref q21, .null, .null, .null, .null, .long 0])), (q1, .inl (gca Γ 0, 113, .inl (fun _ => 0))), (q2, .inl (gca Γ 0, 452, .inl (fun _ => 0))), (q3, .inl (gca Γ 0, 100, .inl (fun _ => 0))), (q4, .inl (gca Γ 0, 60, .inl (fun _ => 0))), (q5, .inl (gca Γ 1, 6, .inl (fun _ => 0))), (q6, .inl (gca Γ 0, 6, .inl (fun _ => 0))), (q7, .inl (gca Γ 1, 6, .inl (fun _ => 0))), (q8, .inl (gca Γ 1, 36, .inl (fun _ => 0))), (q9, .inl (gca Γ 1, 36, .inl (fun _ => 0))), (q10, .inl (gca Γ 1, 1296, .inl (fun _ => 0))), (q11, .inl (gca Γ 1, 1296, .inl (fun _ => 0))), (q12, .inl (gca Γ 1, 3456, .inl (fun _ => 0))), (q13, .inl (gca Γ 1, 216, .inl (fun _ => 0))), (q14, .inl (gca Γ 1, 216, .inl (fun _ => 0))), (q15, .inl (gca Γ 1, 216, .inl (fun _ => 0))), (q16, .inl (gca Γ 1, 24192, .inl (fun _ => 0))), (q17, .inl (gca Γ 0, 113, .inl (fun _ => 0))), (q18, .inl (gca Γ 0, 8, .inl (fun _ => 0))), (q19, .inl (gca Γ 0, 900, .inl (fun _ => 0))), (q20, .inl (gca Γ 2, 486, .inr (.inl (fun _ => 0)))), (q21, .inl (gca Γ 2, 9, .inr (.inl (fun _ => 0))))] cfX12 flX12_76 (by decide) rfl rfl 0 rfl (fty := (.array .long)) rfl rfl rfl (Nat.le_of_ble_eq_true rfl) rfl dX12_init_185 ?_
  refine rc_aload_n C dX12_init_188 rfl 0 rfl ?_
  refine rc_bipush C (v := (9 : Int32)) dX12_init_189 rfl ?_
  refine rc_newJ C (N := 9) (fun q22 => [(h, .inr (12, [.ref q1, .ref q2, .int 0, .ref q3, .int 0, .int (-9 : Int32), .ref q4, .int 0, .ref q5, .ref q6, .ref q7, .ref q8, .ref q9, .ref q10, .ref q11, .ref q12, .ref q13, .ref q14, .ref q15, .ref q16, .ref q17, .int 0, .int 0, .ref q18, .int 0, .ref q19, .ref q20, .ref q21, .null, .null, .null, .null, .long 0])), (q1, .inl (gca Γ 0, 113, .inl (fun _ => 0))), (q2, .inl (gca Γ 0, 452, .inl (fun _ => 0))), (q3, .inl (gca Γ 0, 100, .inl (fun _ => 0))), (q4, .inl (gca Γ 0, 60, .inl (fun _ => 0))), (q5, .inl (gca Γ 1, 6, .inl (fun _ => 0))), (q6, .inl (gca Γ 0, 6, .inl (fun _ => 0))), (q7, .inl (gca Γ 1, 6, .inl (fun _ => 0))), (q8, .inl (gca Γ 1, 36, .inl (fun _ => 0))), (q9, .inl (gca Γ 1, 36, .inl (fun _ => 0))), (q10, .inl (gca Γ 1, 1296, .inl (fun _ => 0))), (q11, .inl (gca Γ 1, 1296, .inl (fun _ => 0))), (q12, .inl (gca Γ 1, 3456, .inl (fun _ => 0))), (q13, .inl (gca Γ 1, 216, .inl (fun _ => 0))), (q14, .inl (gca Γ 1, 216, .inl (fun _ => 0))), (q15, .inl (gca Γ 1, 216, .inl (fun _ => 0))), (q16, .inl (gca Γ 1, 24192, .inl (fun _ => 0))), (q17, .inl (gca Γ 0, 113, .inl (fun _ => 0))), (q18, .inl (gca Γ 0, 8, .inl (fun _ => 0))), (q19, .inl (gca Γ 0, 900, .inl (fun _ => 0))), (q20, .inl (gca Γ 2, 486, .inr (.inl (fun _ => 0)))), (q21, .inl (gca Γ 2, 9, .inr (.inl (fun _ => 0)))), (q22, .inl (gca Γ 2, 9, .inr (.inl (fun _ => 0))))]) acJ (by decide) (by decide) (Nat.le_of_ble_eq_true rfl) (fun _ => rfl) (Nat.le_of_ble_eq_true rfl) (Nat.le_of_ble_eq_true rfl) dX12_init_191 (fun q22 => ?_)
  refine rc_putF C [(h, .inr (12, [.ref q1, .ref q2, .int 0, .ref q3, .int 0, .int (-9 : Int32), .ref q4, .int 0, .ref q5, .ref q6, .ref q7, .ref q8, .ref q9, .ref q10, .ref q11, .ref q12, .ref q13, .ref q14, .ref q15, .ref q16, .ref q17, .int 0, .int 0, .ref q18, .int 0, .ref q19, .ref q20, .ref q21, .ref q22, .null, .null, .null, .long 0])), (q1, .inl (gca Γ 0, 113, .inl (fun _ => 0))), (q2, .inl (gca Γ 0, 452, .inl (fun _ => 0))), (q3, .inl (gca Γ 0, 100, .inl (fun _ => 0))), (q4, .inl (gca Γ 0, 60, .inl (fun _ => 0))), (q5, .inl (gca Γ 1, 6, .inl (fun _ => 0))), (q6, .inl (gca Γ 0, 6, .inl (fun _ => 0))), (q7, .inl (gca Γ 1, 6, .inl (fun _ => 0))), (q8, .inl (gca Γ 1, 36, .inl (fun _ => 0))), (q9, .inl (gca Γ 1, 36, .inl (fun _ => 0))), (q10, .inl (gca Γ 1, 1296, .inl (fun _ => 0))), (q11, .inl (gca Γ 1, 1296, .inl (fun _ => 0))), (q12, .inl (gca Γ 1, 3456, .inl (fun _ => 0))), (q13, .inl (gca Γ 1, 216, .inl (fun _ => 0))), (q14, .inl (gca Γ 1, 216, .inl (fun _ => 0))), (q15, .inl (gca Γ 1, 216, .inl (fun _ => 0))), (q16, .inl (gca Γ 1, 24192, .inl (fun _ => 0))), (q17, .inl (gca Γ 0, 113, .inl (fun _ => 0))), (q18, .inl (gca Γ 0, 8, .inl (fun _ => 0))), (q19, .inl (gca Γ 0, 900, .inl (fun _ => 0))), (q20, .inl (gca Γ 2, 486, .inr (.inl (fun _ => 0)))), (q21, .inl (gca Γ 2, 9, .inr (.inl (fun _ => 0)))), (q22, .inl (gca Γ 2, 9, .inr (.inl (fun _ => 0))))] cfX12 flX12_79 (by decide) rfl rfl 0 rfl (fty := (.array .long)) rfl rfl rfl (Nat.le_of_ble_eq_true rfl) rfl dX12_init_193 ?_
  refine rc_aload_n C dX12_init_196 rfl 0 rfl ?_
  refine rc_bipush C (v := (6 : Int32)) dX12_init_197 rfl ?_
  refine rc_newJ C (N := 6) (fun q23 => [(h, .inr (12, [.ref q1, .ref q2, .int 0, .ref q3, .int 0, .int (-9 : Int32), .ref q4, .int 0, .ref q5, .ref q6, .ref q7, .ref q8, .ref q9, .ref q10, .ref q11, .ref q12, .ref q13, .ref q14, .ref q15, .ref q16, .ref q17, .int 0, .int 0, .ref q18, .int 0, .ref q19, .ref q20, .ref q21, .ref q22, .null, .null, .null, .long 0])), (q1, .inl (gca Γ 0, 113, .inl (fun _ => 0))), (q2, .inl (gca Γ 0, 452, .inl (fun _ => 0))), (q3, .inl (gca Γ 0, 100, .inl (fun _ => 0))), (q4, .inl (gca Γ 0, 60, .inl (fun _ => 0))), (q5, .inl (gca Γ 1, 6, .inl (fun _ => 0))), (q6, .inl (gca Γ 0, 6, .inl (fun _ => 0))), (q7, .inl (gca Γ 1, 6, .inl (fun _ => 0))), (q8, .inl (gca Γ 1, 36, .inl (fun _ => 0))), (q9, .inl (gca Γ 1, 36, .inl (fun _ => 0))), (q10, .inl (gca Γ 1, 1296, .inl (fun _ => 0))), (q11, .inl (gca Γ 1, 1296, .inl (fun _ => 0))), (q12, .inl (gca Γ 1, 3456, .inl (fun _ => 0))), (q13, .inl (gca Γ 1, 216, .inl (fun _ => 0))), (q14, .inl (gca Γ 1, 216, .inl (fun _ => 0))), (q15, .inl (gca Γ 1, 216, .inl (fun _ => 0))), (q16, .inl (gca Γ 1, 24192, .inl (fun _ => 0))), (q17, .inl (gca Γ 0, 113, .inl (fun _ => 0))), (q18, .inl (gca Γ 0, 8, .inl (fun _ => 0))), (q19, .inl (gca Γ 0, 900, .inl (fun _ => 0))), (q20, .inl (gca Γ 2, 486, .inr (.inl (fun _ => 0)))), (q21, .inl (gca Γ 2, 9, .inr (.inl (fun _ => 0)))), (q22, .inl (gca Γ 2, 9, .inr (.inl (fun _ => 0)))), (q23, .inl (gca Γ 2, 6, .inr (.inl (fun _ => 0))))]) acJ (by decide) (by decide) (Nat.le_of_ble_eq_true rfl) (fun _ => rfl) (Nat.le_of_ble_eq_true rfl) (Nat.le_of_ble_eq_true rfl) dX12_init_199 (fun q23 => ?_)
  refine rc_putF C [(h, .inr (12, [.ref q1, .ref q2, .int 0, .ref q3, .int 0, .int (-9 : Int32), .ref q4, .int 0, .ref q5, .ref q6, .ref q7, .ref q8, .ref q9, .ref q10, .ref q11, .ref q12, .ref q13, .ref q14, .ref q15, .ref q16, .ref q17, .int 0, .int 0, .ref q18, .int 0, .ref q19, .ref q20, .ref q21, .ref q22, .ref q23, .null, .null, .long 0])), (q1, .inl (gca Γ 0, 113, .inl (fun _ => 0))), (q2, .inl (gca Γ 0, 452, .inl (fun _ => 0))), (q3, .inl (gca Γ 0, 100, .inl (fun _ => 0))), (q4, .inl (gca Γ 0, 60, .inl (fun _ => 0))), (q5, .inl (gca Γ 1, 6, .inl (fun _ => 0))), (q6, .inl (gca Γ 0, 6, .inl (fun _ => 0))), (q7, .inl (gca Γ 1, 6, .inl (fun _ => 0))), (q8, .inl (gca Γ 1, 36, .inl (fun _ => 0))), (q9, .inl (gca Γ 1, 36, .inl (fun _ => 0))), (q10, .inl (gca Γ 1, 1296, .inl (fun _ => 0))), (q11, .inl (gca Γ 1, 1296, .inl (fun _ => 0))), (q12, .inl (gca Γ 1, 3456, .inl (fun _ => 0))), (q13, .inl (gca Γ 1, 216, .inl (fun _ => 0))), (q14, .inl (gca Γ 1, 216, .inl (fun _ => 0))), (q15, .inl (gca Γ 1, 216, .inl (fun _ => 0))), (q16, .inl (gca Γ 1, 24192, .inl (fun _ => 0))), (q17, .inl (gca Γ 0, 113, .inl (fun _ => 0))), (q18, .inl (gca Γ 0, 8, .inl (fun _ => 0))), (q19, .inl (gca Γ 0, 900, .inl (fun _ => 0))), (q20, .inl (gca Γ 2, 486, .inr (.inl (fun _ => 0)))), (q21, .inl (gca Γ 2, 9, .inr (.inl (fun _ => 0)))), (q22, .inl (gca Γ 2, 9, .inr (.inl (fun _ => 0)))), (q23, .inl (gca Γ 2, 6, .inr (.inl (fun _ => 0))))] cfX12 flX12_82 (by decide) rfl rfl 0 rfl (fty := (.array .long)) rfl rfl rfl (Nat.le_of_ble_eq_true rfl) rfl dX12_init_201 ?_
  refine rc_aload_n C dX12_init_204 rfl 0 rfl ?_
  refine rc_sipush C (v := (900 : Int32)) dX12_init_205 rfl ?_
  refine rc_newI C (N := 900) (fun q24 => [(h, .inr (12, [.ref q1, .ref q2, .int 0, .ref q3, .int 0, .int (-9 : Int32), .ref q4, .int 0, .ref q5, .ref q6, .ref q7, .ref q8, .ref q9, .ref q10, .ref q11, .ref q12, .ref q13, .ref q14, .ref q15, .ref q16, .ref q17, .int 0, .int 0, .ref q18, .int 0, .ref q19, .ref q20, .ref q21, .ref q22, .ref q23, .null, .null, .long 0])), (q1, .inl (gca Γ 0, 113, .inl (fun _ => 0))), (q2, .inl (gca Γ 0, 452, .inl (fun _ => 0))), (q3, .inl (gca Γ 0, 100, .inl (fun _ => 0))), (q4, .inl (gca Γ 0, 60, .inl (fun _ => 0))), (q5, .inl (gca Γ 1, 6, .inl (fun _ => 0))), (q6, .inl (gca Γ 0, 6, .inl (fun _ => 0))), (q7, .inl (gca Γ 1, 6, .inl (fun _ => 0))), (q8, .inl (gca Γ 1, 36, .inl (fun _ => 0))), (q9, .inl (gca Γ 1, 36, .inl (fun _ => 0))), (q10, .inl (gca Γ 1, 1296, .inl (fun _ => 0))), (q11, .inl (gca Γ 1, 1296, .inl (fun _ => 0))), (q12, .inl (gca Γ 1, 3456, .inl (fun _ => 0))), (q13, .inl (gca Γ 1, 216, .inl (fun _ => 0))), (q14, .inl (gca Γ 1, 216, .inl (fun _ => 0))), (q15, .inl (gca Γ 1, 216, .inl (fun _ => 0))), (q16, .inl (gca Γ 1, 24192, .inl (fun _ => 0))), (q17, .inl (gca Γ 0, 113, .inl (fun _ => 0))), (q18, .inl (gca Γ 0, 8, .inl (fun _ => 0))), (q19, .inl (gca Γ 0, 900, .inl (fun _ => 0))), (q20, .inl (gca Γ 2, 486, .inr (.inl (fun _ => 0)))), (q21, .inl (gca Γ 2, 9, .inr (.inl (fun _ => 0)))), (q22, .inl (gca Γ 2, 9, .inr (.inl (fun _ => 0)))), (q23, .inl (gca Γ 2, 6, .inr (.inl (fun _ => 0)))), (q24, .inl (gca Γ 0, 900, .inl (fun _ => 0)))]) acI (by decide) (by decide) (Nat.le_of_ble_eq_true rfl) (fun _ => rfl) (Nat.le_of_ble_eq_true rfl) (Nat.le_of_ble_eq_true rfl) dX12_init_208 (fun q24 => ?_)
  refine rc_putF C [(h, .inr (12, [.ref q1, .ref q2, .int 0, .ref q3, .int 0, .int (-9 : Int32), .ref q4, .int 0, .ref q5, .ref q6, .ref q7, .ref q8, .ref q9, .ref q10, .ref q11, .ref q12, .ref q13, .ref q14, .ref q15, .ref q16, .ref q17, .int 0, .int 0, .ref q18, .int 0, .ref q19, .ref q20, .ref q21, .ref q22, .ref q23, .ref q24, .null, .long 0])), (q1, .inl (gca Γ 0, 113, .inl (fun _ => 0))), (q2, .inl (gca Γ 0, 452, .inl (fun _ => 0))), (q3, .inl (gca Γ 0, 100, .inl (fun _ => 0))), (q4, .inl (gca Γ 0, 60, .inl (fun _ => 0))), (q5, .inl (gca Γ 1, 6, .inl (fun _ => 0))), (q6, .inl (gca Γ 0, 6, .inl (fun _ => 0))), (q7, .inl (gca Γ 1, 6, .inl (fun _ => 0))), (q8, .inl (gca Γ 1, 36, .inl (fun _ => 0))), (q9, .inl (gca Γ 1, 36, .inl (fun _ => 0))), (q10, .inl (gca Γ 1, 1296, .inl (fun _ => 0))), (q11, .inl (gca Γ 1, 1296, .inl (fun _ => 0))), (q12, .inl (gca Γ 1, 3456, .inl (fun _ => 0))), (q13, .inl (gca Γ 1, 216, .inl (fun _ => 0))), (q14, .inl (gca Γ 1, 216, .inl (fun _ => 0))), (q15, .inl (gca Γ 1, 216, .inl (fun _ => 0))), (q16, .inl (gca Γ 1, 24192, .inl (fun _ => 0))), (q17, .inl (gca Γ 0, 113, .inl (fun _ => 0))), (q18, .inl (gca Γ 0, 8, .inl (fun _ => 0))), (q19, .inl (gca Γ 0, 900, .inl (fun _ => 0))), (q20, .inl (gca Γ 2, 486, .inr (.inl (fun _ => 0)))), (q21, .inl (gca Γ 2, 9, .inr (.inl (fun _ => 0)))), (q22, .inl (gca Γ 2, 9, .inr (.inl (fun _ => 0)))), (q23, .inl (gca Γ 2, 6, .inr (.inl (fun _ => 0)))), (q24, .inl (gca Γ 0, 900, .inl (fun _ => 0)))] cfX12 flX12_85 (by decide) rfl rfl 0 rfl (fty := (.array .int)) rfl rfl rfl (Nat.le_of_ble_eq_true rfl) rfl dX12_init_210 ?_
  refine rc_aload_n C dX12_init_213 rfl 0 rfl ?_
  refine rc_sipush C (v := (8109 : Int32)) dX12_init_214 rfl ?_
  refine rc_newJ C (N := 8109) (fun q25 => [(h, .inr (12, [.ref q1, .ref q2, .int 0, .ref q3, .int 0, .int (-9 : Int32), .ref q4, .int 0, .ref q5, .ref q6, .ref q7, .ref q8, .ref q9, .ref q10, .ref q11, .ref q12, .ref q13, .ref q14, .ref q15, .ref q16, .ref q17, .int 0, .int 0, .ref q18, .int 0, .ref q19, .ref q20, .ref q21, .ref q22, .ref q23, .ref q24, .null, .long 0])), (q1, .inl (gca Γ 0, 113, .inl (fun _ => 0))), (q2, .inl (gca Γ 0, 452, .inl (fun _ => 0))), (q3, .inl (gca Γ 0, 100, .inl (fun _ => 0))), (q4, .inl (gca Γ 0, 60, .inl (fun _ => 0))), (q5, .inl (gca Γ 1, 6, .inl (fun _ => 0))), (q6, .inl (gca Γ 0, 6, .inl (fun _ => 0))), (q7, .inl (gca Γ 1, 6, .inl (fun _ => 0))), (q8, .inl (gca Γ 1, 36, .inl (fun _ => 0))), (q9, .inl (gca Γ 1, 36, .inl (fun _ => 0))), (q10, .inl (gca Γ 1, 1296, .inl (fun _ => 0))), (q11, .inl (gca Γ 1, 1296, .inl (fun _ => 0))), (q12, .inl (gca Γ 1, 3456, .inl (fun _ => 0))), (q13, .inl (gca Γ 1, 216, .inl (fun _ => 0))), (q14, .inl (gca Γ 1, 216, .inl (fun _ => 0))), (q15, .inl (gca Γ 1, 216, .inl (fun _ => 0))), (q16, .inl (gca Γ 1, 24192, .inl (fun _ => 0))), (q17, .inl (gca Γ 0, 113, .inl (fun _ => 0))), (q18, .inl (gca Γ 0, 8, .inl (fun _ => 0))), (q19, .inl (gca Γ 0, 900, .inl (fun _ => 0))), (q20, .inl (gca Γ 2, 486, .inr (.inl (fun _ => 0)))), (q21, .inl (gca Γ 2, 9, .inr (.inl (fun _ => 0)))), (q22, .inl (gca Γ 2, 9, .inr (.inl (fun _ => 0)))), (q23, .inl (gca Γ 2, 6, .inr (.inl (fun _ => 0)))), (q24, .inl (gca Γ 0, 900, .inl (fun _ => 0))), (q25, .inl (gca Γ 2, 8109, .inr (.inl (fun _ => 0))))]) acJ (by decide) (by decide) (Nat.le_of_ble_eq_true rfl) (fun _ => rfl) (Nat.le_of_ble_eq_true rfl) (Nat.le_of_ble_eq_true rfl) dX12_init_217 (fun q25 => ?_)
  refine rc_putF C [(h, .inr (12, [.ref q1, .ref q2, .int 0, .ref q3, .int 0, .int (-9 : Int32), .ref q4, .int 0, .ref q5, .ref q6, .ref q7, .ref q8, .ref q9, .ref q10, .ref q11, .ref q12, .ref q13, .ref q14, .ref q15, .ref q16, .ref q17, .int 0, .int 0, .ref q18, .int 0, .ref q19, .ref q20, .ref q21, .ref q22, .ref q23, .ref q24, .ref q25, .long 0])), (q1, .inl (gca Γ 0, 113, .inl (fun _ => 0))), (q2, .inl (gca Γ 0, 452, .inl (fun _ => 0))), (q3, .inl (gca Γ 0, 100, .inl (fun _ => 0))), (q4, .inl (gca Γ 0, 60, .inl (fun _ => 0))), (q5, .inl (gca Γ 1, 6, .inl (fun _ => 0))), (q6, .inl (gca Γ 0, 6, .inl (fun _ => 0))), (q7, .inl (gca Γ 1, 6, .inl (fun _ => 0))), (q8, .inl (gca Γ 1, 36, .inl (fun _ => 0))), (q9, .inl (gca Γ 1, 36, .inl (fun _ => 0))), (q10, .inl (gca Γ 1, 1296, .inl (fun _ => 0))), (q11, .inl (gca Γ 1, 1296, .inl (fun _ => 0))), (q12, .inl (gca Γ 1, 3456, .inl (fun _ => 0))), (q13, .inl (gca Γ 1, 216, .inl (fun _ => 0))), (q14, .inl (gca Γ 1, 216, .inl (fun _ => 0))), (q15, .inl (gca Γ 1, 216, .inl (fun _ => 0))), (q16, .inl (gca Γ 1, 24192, .inl (fun _ => 0))), (q17, .inl (gca Γ 0, 113, .inl (fun _ => 0))), (q18, .inl (gca Γ 0, 8, .inl (fun _ => 0))), (q19, .inl (gca Γ 0, 900, .inl (fun _ => 0))), (q20, .inl (gca Γ 2, 486, .inr (.inl (fun _ => 0)))), (q21, .inl (gca Γ 2, 9, .inr (.inl (fun _ => 0)))), (q22, .inl (gca Γ 2, 9, .inr (.inl (fun _ => 0)))), (q23, .inl (gca Γ 2, 6, .inr (.inl (fun _ => 0)))), (q24, .inl (gca Γ 0, 900, .inl (fun _ => 0))), (q25, .inl (gca Γ 2, 8109, .inr (.inl (fun _ => 0))))] cfX12 flX12_88 (by decide) rfl rfl 0 rfl (fty := (.array .long)) rfl rfl rfl (Nat.le_of_ble_eq_true rfl) rfl dX12_init_219 ?_
  refine rc_aload_n C dX12_init_222 rfl 0 rfl ?_
  refine rc_get C (v := .ref q1) cfX12 flX12_7 (by decide) 0 rfl rfl dX12_init_223 ?_
  refine rc_iconst C (v := (0 : Int32)) dX12_init_226 rfl ?_
  refine rc_iconst C (v := (1 : Int32)) dX12_init_227 rfl ?_
  refine rc_iast C [(h, .inr (12, [.ref q1, .ref q2, .int 0, .ref q3, .int 0, .int (-9 : Int32), .ref q4, .int 0, .ref q5, .ref q6, .ref q7, .ref q8, .ref q9, .ref q10, .ref q11, .ref q12, .ref q13, .ref q14, .ref q15, .ref q16, .ref q17, .int 0, .int 0, .ref q18, .int 0, .ref q19, .ref q20, .ref q21, .ref q22, .ref q23, .ref q24, .ref q25, .long 0])), (q1, .inl (gca Γ 0, 113, .inl (upd (fun _ => 0) (0 : Int32).toNatClampNeg (1 : Int32)))), (q2, .inl (gca Γ 0, 452, .inl (fun _ => 0))), (q3, .inl (gca Γ 0, 100, .inl (fun _ => 0))), (q4, .inl (gca Γ 0, 60, .inl (fun _ => 0))), (q5, .inl (gca Γ 1, 6, .inl (fun _ => 0))), (q6, .inl (gca Γ 0, 6, .inl (fun _ => 0))), (q7, .inl (gca Γ 1, 6, .inl (fun _ => 0))), (q8, .inl (gca Γ 1, 36, .inl (fun _ => 0))), (q9, .inl (gca Γ 1, 36, .inl (fun _ => 0))), (q10, .inl (gca Γ 1, 1296, .inl (fun _ => 0))), (q11, .inl (gca Γ 1, 1296, .inl (fun _ => 0))), (q12, .inl (gca Γ 1, 3456, .inl (fun _ => 0))), (q13, .inl (gca Γ 1, 216, .inl (fun _ => 0))), (q14, .inl (gca Γ 1, 216, .inl (fun _ => 0))), (q15, .inl (gca Γ 1, 216, .inl (fun _ => 0))), (q16, .inl (gca Γ 1, 24192, .inl (fun _ => 0))), (q17, .inl (gca Γ 0, 113, .inl (fun _ => 0))), (q18, .inl (gca Γ 0, 8, .inl (fun _ => 0))), (q19, .inl (gca Γ 0, 900, .inl (fun _ => 0))), (q20, .inl (gca Γ 2, 486, .inr (.inl (fun _ => 0)))), (q21, .inl (gca Γ 2, 9, .inr (.inl (fun _ => 0)))), (q22, .inl (gca Γ 2, 9, .inr (.inl (fun _ => 0)))), (q23, .inl (gca Γ 2, 6, .inr (.inl (fun _ => 0)))), (q24, .inl (gca Γ 0, 900, .inl (fun _ => 0))), (q25, .inl (gca Γ 2, 8109, .inr (.inl (fun _ => 0))))] 1 rfl (by unfold vp_in; decide) rfl dX12_init_228 ?_
  have hM : ∀ k, k < 26 → ([(h, .inr (12, [.ref q1, .ref q2, .int 0, .ref q3, .int 0, .int (-9 : Int32), .ref q4, .int 0, .ref q5, .ref q6, .ref q7, .ref q8, .ref q9, .ref q10, .ref q11, .ref q12, .ref q13, .ref q14, .ref q15, .ref q16, .ref q17, .int 0, .int 0, .ref q18, .int 0, .ref q19, .ref q20, .ref q21, .ref q22, .ref q23, .ref q24, .ref q25, .long 0])), (q1, .inl (gca Γ 0, 113, .inl (upd (fun _ => 0) (0 : Int32).toNatClampNeg (1 : Int32)))), (q2, .inl (gca Γ 0, 452, .inl (fun _ => 0))), (q3, .inl (gca Γ 0, 100, .inl (fun _ => 0))), (q4, .inl (gca Γ 0, 60, .inl (fun _ => 0))), (q5, .inl (gca Γ 1, 6, .inl (fun _ => 0))), (q6, .inl (gca Γ 0, 6, .inl (fun _ => 0))), (q7, .inl (gca Γ 1, 6, .inl (fun _ => 0))), (q8, .inl (gca Γ 1, 36, .inl (fun _ => 0))), (q9, .inl (gca Γ 1, 36, .inl (fun _ => 0))), (q10, .inl (gca Γ 1, 1296, .inl (fun _ => 0))), (q11, .inl (gca Γ 1, 1296, .inl (fun _ => 0))), (q12, .inl (gca Γ 1, 3456, .inl (fun _ => 0))), (q13, .inl (gca Γ 1, 216, .inl (fun _ => 0))), (q14, .inl (gca Γ 1, 216, .inl (fun _ => 0))), (q15, .inl (gca Γ 1, 216, .inl (fun _ => 0))), (q16, .inl (gca Γ 1, 24192, .inl (fun _ => 0))), (q17, .inl (gca Γ 0, 113, .inl (fun _ => 0))), (q18, .inl (gca Γ 0, 8, .inl (fun _ => 0))), (q19, .inl (gca Γ 0, 900, .inl (fun _ => 0))), (q20, .inl (gca Γ 2, 486, .inr (.inl (fun _ => 0)))), (q21, .inl (gca Γ 2, 9, .inr (.inl (fun _ => 0)))), (q22, .inl (gca Γ 2, 9, .inr (.inl (fun _ => 0)))), (q23, .inl (gca Γ 2, 6, .inr (.inl (fun _ => 0)))), (q24, .inl (gca Γ 0, 900, .inl (fun _ => 0))), (q25, .inl (gca Γ 2, 8109, .inr (.inl (fun _ => 0))))] : va_W)[k]? = some ((fun i => if i < 148 then ad0 i else List.getD [h, q1, q2, q3, q4, q5, q6, q7, q8, q9, q10, q11, q12, q13, q14, q15, q16, q17, q18, q19, q20, q21, q22, q23, q24, q25] (i - 148) 0) (148 + k), ent (gD Γ, (fun i => if i < 148 then ad0 i else List.getD [h, q1, q2, q3, q4, q5, q6, q7, q8, q9, q10, q11, q12, q13, q14, q15, q16, q17, q18, q19, q20, q21, q22, q23, q24, q25] (i - 148) 0), gca Γ, gS Γ, 174, gA Γ) (mgH s1) (148 + k)) := by
    intro k hk
    rcases (show k = 0 ∨ k = 1 ∨ k = 2 ∨ k = 3 ∨ k = 4 ∨ k = 5 ∨ k = 6 ∨ k = 7 ∨ k = 8 ∨ k = 9 ∨ k = 10 ∨ k = 11 ∨ k = 12 ∨ k = 13 ∨ k = 14 ∨ k = 15 ∨ k = 16 ∨ k = 17 ∨ k = 18 ∨ k = 19 ∨ k = 20 ∨ k = 21 ∨ k = 22 ∨ k = 23 ∨ k = 24 ∨ k = 25 by omega) with rfl | rfl | rfl | rfl | rfl | rfl | rfl | rfl | rfl | rfl | rfl | rfl | rfl | rfl | rfl | rfl | rfl | rfl | rfl | rfl | rfl | rfl | rfl | rfl | rfl | rfl <;> rfl
  have had : ∀ q, q < 148 → (fun i => if i < 148 then ad0 i else List.getD [h, q1, q2, q3, q4, q5, q6, q7, q8, q9, q10, q11, q12, q13, q14, q15, q16, q17, q18, q19, q20, q21, q22, q23, q24, q25] (i - 148) 0) q = ad0 q := fun q hq => if_pos hq
  refine rc_rf C (cs := 25) (ss := 42243) (fun i => if i < 148 then ad0 i else List.getD [h, q1, q2, q3, q4, q5, q6, q7, q8, q9, q10, q11, q12, q13, q14, q15, q16, q17, q18, q19, q20, q21, q22, q23, q24, q25] (i - 148) 0) 174 174 (mgH s1) (Nat.le_refl _) ⟨Nat.le_of_ble_eq_true rfl, Nat.le_of_ble_eq_true rfl⟩ (fun H hP => ?_) (fun hD => ?_) (mgH_6 h6) hf (Q' := Qv (rfΓ Γ (fun i => if i < 148 then ad0 i else List.getD [h, q1, q2, q3, q4, q5, q6, q7, q8, q9, q10, q11, q12, q13, q14, q15, q16, q17, q18, q19, q20, q21, q22, q23, q24, q25] (i - 148) 0) 174 25 42243)) (QX_up (fun i => if i < 148 then ad0 i else List.getD [h, q1, q2, q3, q4, q5, q6, q7, q8, q9, q10, q11, q12, q13, q14, q15, q16, q17, q18, q19, q20, q21, q22, q23, q24, q25] (i - 148) 0) ⟨rfl, had⟩ (fun t h => h)) (fun C => ?_)
  · rw [← hws] at hP
    exact lift_P hP (fun q hq => mgH_lo s1 q hq) had h6 hM
  · rw [← hws] at hD
    exact lift_D hD rfl had hM
  show RF (rfΓ Γ (fun i => if i < 148 then ad0 i else List.getD [h, q1, q2, q3, q4, q5, q6, q7, q8, q9, q10, q11, q12, q13, q14, q15, q16, q17, q18, q19, q20, q21, q22, q23, q24, q25] (i - 148) 0) 174 25 42243) (Qv (rfΓ Γ (fun i => if i < 148 then ad0 i else List.getD [h, q1, q2, q3, q4, q5, q6, q7, q8, q9, q10, q11, q12, q13, q14, q15, q16, q17, q18, q19, q20, q21, q22, q23, q24, q25] (i - 148) 0) 174 25 42243)) (fX12_rest n (mgH s1)) (mgH s1) 229 [(0, .ref ((gE (rfΓ Γ (fun i => if i < 148 then ad0 i else List.getD [h, q1, q2, q3, q4, q5, q6, q7, q8, q9, q10, q11, q12, q13, q14, q15, q16, q17, q18, q19, q20, q21, q22, q23, q24, q25] (i - 148) 0) 174 25 42243)).2.1 148))] []
  generalize rfΓ Γ (fun i => if i < 148 then ad0 i else List.getD [h, q1, q2, q3, q4, q5, q6, q7, q8, q9, q10, q11, q12, q13, q14, q15, q16, q17, q18, q19, q20, q21, q22, q23, q24, q25] (i - 148) 0) 174 25 42243 = Γ at C ⊢
  unfold fX12_rest
  generalize mgH s1 = s0
  refine rf_aload_n C dX12_init_229 rfl 0 rfl ?_
  refine rf_callVv C (rmc := rmOf 6 136) [] (by decide) (mX12_lays (gL Γ) n s0) mfX12_lays mvX12_lays mlX12_91 rfl oX12 rfl rfl rfl (Nat.le_of_ble_eq_true rfl) ⟨Nat.le_of_ble_eq_true rfl, Nat.le_of_ble_eq_true rfl⟩ dX12_init_230 (fun s1 => ?_)
  exact rf_vret C dX12_init_233
