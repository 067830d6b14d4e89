/-! ===== the class: relations, loops, order ===== -/
/-- rows of a relation, as masks -/
def RW (f : Nat → Int32) (T : Nat → Bool) : Prop := ∀ x, x < 6 → f x = nI (mk (fun y => T (6 * x + y)))
theorem RW.congr {f : Nat → Int32} {T T' : Nat → Bool} (h : RW f T) (he : ∀ k, k < 36 → T k = T' k) : RW f T' := fun x hx => by
  rw [h x hx]
  congr 1
  exact mk_congr (fun y hy => he _ (by omega))
theorem aE_stop {E : Nat → Bool} {q : Nat → Nat} {a n : Nat} (h : aE E q a n = false) : ∀ m, n ≤ m → aE E q a m = false
  | 0, hm => by
    have : n = 0 := by omega
    subst this
    exact h
  | m + 1, hm => by
    by_cases e : n = m + 1
    · rw [← e]; exact h
    · show (aE E q a m && _) = false
      rw [aE_stop h m (by omega), Bool.false_and]
theorem tRow_stop {c : Bool} {G : Gr} {E : Nat → Bool} {p i : Nat} (h : ∀ j, i ≤ j → tQ c G E p j = false) (k : Nat) : ∀ m, i ≤ m → tRow c G E p m k = tRow c G E p i k
  | 0, hm => by
    have : i = 0 := by omega
    subst this
    rfl
  | m + 1, hm => by
    by_cases e : i = m + 1
    · rw [← e]
    · show (tRow c G E p m k || (tQ c G E p m && _)) = _
      rw [tRow_stop h k m (by omega), h m (by omega), Bool.false_and, Bool.or_false]
def isRe (q : Nat) : Prop := q = 10 ∨ q = 11
theorem gIre {g : Nat} : ∀ k, k < 6 → ¬ isRe (gId g k) := fun k hk => by unfold isRe gId; omega
theorem relateRight_c {G : Gr} {g : Nat} {s : PH} {E : Nat → Bool} {A B : Nat → Bool} (h : CG G g s) (w : WG G) (hE : ∀ x, E x = decide (fw G 1000000 x = 0)) (h8 : NA (s.1 8) 6 (fw G 1000000)) (h9 : TLS G G.1 (s.1 9)) (hA : RW (s.1 10) A) (hB : RW (s.1 11) B) {p n : Nat} (hp : p < G.1) (hn : 10 ≤ n) : wp (fX9_relateRight n g (nI p) s) (fun _ t => Fr isRe s t ∧ RW (t.1 10) (fun k => A k || tRow false G E p (G.2.2.1 p) k) ∧ RW (t.1 11) (fun k => B k || tRow true G E p (G.2.2.1 p) k)) := by
  have h16 := w.1.2
  have h5 := (w.2.1 p hp).2
  have h6 := (w.2.1 p hp).1
  unfold fX9_relateRight
  simp only [left_c h w hp, bd_ok, lt_def]
  refine wp_for2 (G.2.2.1 p) (by omega) (fun j t => Fr isRe s t ∧ aE E (G.2.2.2 p) 0 j = true ∧ RW (t.1 10) (fun k => A k || tRow false G E p j k) ∧ RW (t.1 11) (fun k => B k || tRow true G E p j k)) ?_ ?_ n 0 s (by omega) ⟨Fr.rf, rfl, hA.congr (fun k _ => by simp [tRow]), hB.congr (fun k _ => by simp [tRow])⟩ (by omega)
  · rintro rec j t hj ⟨hf, hae, hA, hB⟩ ih
    have hgt := h.fr hf gIre
    have hy := sy16 w hp hj
    have e8 : t.1 8 = s.1 8 := (hf 8 (by unfold isRe; decide)).1
    have e9 : t.1 9 = s.1 9 := (hf 9 (by unfold isRe; decide)).1
    have eR : ∀ (c : Bool) (k : Nat), tRow c G E p (j + 1) k = (tRow c G E p j k || (tQ c G E p j && decide (k = 6 * G.2.1 p + G.2.2.2 p j - 10))) := fun _ _ => rfl
    simp (disch := omega) only [length_c hgt w hp, bd_ok, le_ok, if_neg, symbolAt_c hgt w hp hj, isLetter_c, bI_0, decide_eq_false_iff_not, jn_def, lt_def, nI_add]
    have stop : ∀ i, (∀ m, i ≤ m → aE E (G.2.2.2 p) 0 m = false ∨ ¬ 10 ≤ G.2.2.2 p m) → ∀ c j', i ≤ j' → tQ c G E p j' = false := by
      intro i hi c j' hj'
      unfold tQ
      rcases hi j' hj' with h1 | h1
      · rw [h1]; simp
      · rw [decide_eq_false h1]; simp
    by_cases hc : G.2.2.2 p j < 10
    · rw [if_neg (by omega)]
      have hs := stop j (fun m hm => by
        by_cases e : m = j
        · right; rw [e]; omega
        · left
          refine aE_stop (n := j + 1) ?_ m (by omega)
          show (aE E (G.2.2.2 p) 0 j && eS E (G.2.2.2 p (0 + j))) = false
          rw [Nat.zero_add]
          unfold eS
          rw [decide_eq_false (by omega)]
          simp)
      refine wp_some ⟨hf, hA.congr (fun k _ => ?_), hB.congr (fun k _ => ?_)⟩
      · rw [tRow_stop (hs false) k (G.2.2.1 p) (by omega)]
      · rw [tRow_stop (hs true) k (G.2.2.1 p) (by omega)]
    · rw [if_pos hc]
      simp (disch := omega) only [nI_subN, ra_ok, wa_ok, cl_ok, tail_c]
      have e9' : (si t 10 (G.2.1 p) (t.1 10 (G.2.1 p) ||| nI 1 <<< (nI (G.2.2.2 p j - 10) &&& 31))).1 9 = s.1 9 := by rw [si_r _ _ _ _ (by decide), e9]
      rw [e9', h9 p hp (j + 1) (by omega)]
      have hA2 : ∀ u : PH, u.1 10 = (fun b => if b = G.2.1 p then t.1 10 (G.2.1 p) ||| nI 1 <<< (nI (G.2.2.2 p j - 10) &&& 31) else t.1 10 b) → RW (u.1 10) (fun k => A k || tRow false G E p (j + 1) k) := by
        intro u hu x hx
        rw [hu]
        dsimp only
        have eq0 : tQ false G E p j = true := by
          unfold tQ
          rw [hae, decide_eq_true (by omega)]
          rfl
        by_cases e : x = G.2.1 p
        · rw [if_pos e, hA _ h6, mk_set _ (by omega)]
          congr 1
          apply mk_congr
          intro y hy'
          rw [eR, eq0, Bool.true_and, ← Bool.or_assoc, e]
          congr 1
          rw [decide_eq_decide]
          omega
        · rw [if_neg e, hA x hx]
          congr 1
          apply mk_congr
          intro y hy'
          rw [eR, decide_eq_false (show ¬ 6 * x + y = 6 * G.2.1 p + G.2.2.2 p j - 10 by omega), Bool.and_false, Bool.or_false]
      have hl := tl_le (fw G 1000000) (G.2.2.2 p) (G.2.2.1 p - (j + 1)) (j + 1)
      have hfx : fw G 1000000 (G.2.2.2 p j - 10) ≤ 1000000 := fI_le _ _ _ _
      have eq1 : tQ true G E p j = decide (tl (fw G 1000000) (G.2.2.2 p) (G.2.2.1 p - (j + 1)) (j + 1) = 0) := by
        unfold tQ
        rw [hae, decide_eq_true (by omega), aE_sR hE, tl_sR]
        simp only [Bool.and_true, Bool.not_true, Bool.false_or, Bool.true_and]
        rw [decide_eq_decide]
        omega
      have fin : ∀ u : PH, Fr isRe s u → RW (u.1 10) (fun k => A k || tRow false G E p (j + 1) k) → RW (u.1 11) (fun k => B k || tRow true G E p (j + 1) k) → u.1 8 = s.1 8 → wp (if u.1 8 (G.2.2.2 p j - 10) = 0 then rec (nI (j + 1)) u else some ((), u)) (fun _ t => Fr isRe s t ∧ RW (t.1 10) (fun k => A k || tRow false G E p (G.2.2.1 p) k) ∧ RW (t.1 11) (fun k => B k || tRow true G E p (G.2.2.1 p) k)) := by
        intro u hfu hAu hBu hu8
        rw [hu8, h8 _ (by omega)]
        simp (disch := omega) only [eq0_ok]
        have ee : aE E (G.2.2.2 p) 0 (j + 1) = decide (fw G 1000000 (G.2.2.2 p j - 10) = 0) := by
          show (aE E (G.2.2.2 p) 0 j && eS E (G.2.2.2 p (0 + j))) = _
          rw [hae, Nat.zero_add, Bool.true_and]
          unfold eS
          rw [decide_eq_true (by omega), hE, Bool.true_and]
        by_cases hz : fw G 1000000 (G.2.2.2 p j - 10) = 0
        · rw [if_pos hz]
          exact ih _ ⟨hfu, by rw [ee, decide_eq_true hz], hAu, hBu⟩
        · rw [if_neg hz]
          have hs := stop (j + 1) (fun m hm => Or.inl (aE_stop (n := j + 1) (by rw [ee, decide_eq_false hz]) m hm))
          refine wp_some ⟨hfu, hAu.congr (fun k _ => ?_), hBu.congr (fun k _ => ?_)⟩
          · rw [tRow_stop (hs false) k (G.2.2.1 p) (by omega)]
          · rw [tRow_stop (hs true) k (G.2.2.1 p) (by omega)]
      simp only [bd_ok, eq0_ok (Nat.lt_of_le_of_lt hl (by decide : 1000000 < 2147483648))]
      by_cases hz : tl (fw G 1000000) (G.2.2.2 p) (G.2.2.1 p - (j + 1)) (j + 1) = 0
      · rw [if_pos hz]
        refine fin _ ((hf.tr (Fr.si (Or.inl rfl))).tr (Fr.si (Or.inr rfl))) (hA2 _ ?_) ?_ ?_
        · rw [si_r _ _ _ _ (by decide), si_q]
        · intro x hx
          rw [si_q, si_r _ _ _ _ (show 11 ≠ 10 by decide)]
          dsimp only
          by_cases e : x = G.2.1 p
          · rw [if_pos e, hB _ h6, mk_set _ (by omega)]
            congr 1
            apply mk_congr
            intro y hy'
            rw [eR, eq1, decide_eq_true hz, Bool.true_and, ← Bool.or_assoc, e]
            congr 1
            rw [decide_eq_decide]
            omega
          · rw [if_neg e, hB x hx]
            congr 1
            apply mk_congr
            intro y hy'
            rw [eR, decide_eq_false (show ¬ 6 * x + y = 6 * G.2.1 p + G.2.2.2 p j - 10 by omega), Bool.and_false, Bool.or_false]
        · rw [si_r _ _ _ _ (by decide), si_r _ _ _ _ (by decide), e8]
      · rw [if_neg hz]
        refine fin _ (hf.tr (Fr.si (Or.inl rfl))) (hA2 _ ?_) ?_ ?_
        · rw [si_q]
        · rw [si_r _ _ _ _ (by decide)]
          exact hB.congr (fun k _ => by rw [eR, eq1, decide_eq_false hz, Bool.false_and, Bool.or_false])
        · rw [si_r _ _ _ _ (by decide), e8]
  · rintro rec t ⟨hf, hae, hA, hB⟩
    have hgt := h.fr hf gIre
    simp (disch := omega) only [length_c hgt w hp, bd_ok, le_ok, if_pos]
    exact wp_some ⟨hf, hA, hB⟩
theorem findRelations_c {G : Gr} {g : Nat} {s : PH} {E : Nat → Bool} (h : CG G g s) (w : WG G) (hE : ∀ x, E x = decide (fw G 1000000 x = 0)) (h8 : NA (s.1 8) 6 (fw G 1000000)) (h9 : TLS G G.1 (s.1 9)) {n : Nat} (hn : 30 ≤ n) : wp (fX9_findRelations n g s) (fun _ t => Fr isRe s t ∧ RW (t.1 10) (tAll false G E G.1) ∧ RW (t.1 11) (tAll true G E G.1)) := by
  have h16 := w.1.2
  unfold fX9_findRelations
  refine wp_call (fill_c (by omega) (by omega)) (fun _ t h1 => ?_)
  refine wp_call (fill_c (by omega) (by omega)) (fun _ t2 h2 => ?_)
  simp only [lt_def]
  have hf0 : Fr isRe s t2 := (h1.1.wk (fun q e => Or.inl e)).tr (h2.1.wk (fun q e => Or.inr e))
  refine wp_for2 G.1 (by omega) (fun p t => Fr isRe s t ∧ RW (t.1 10) (tAll false G E p) ∧ RW (t.1 11) (tAll true G E p)) ?_ ?_ n 0 t2 (by omega) ⟨hf0, ?_, ?_⟩ (by omega)
  · rintro rec p t hp ⟨hf, hA, hB⟩ ih
    have hgt := h.fr hf gIre
    simp (disch := omega) only [count_c hgt, bd_ok, le_ok, if_neg]
    refine wp_call (relateRight_c hgt w hE (by rw [(hf 8 (by unfold isRe; decide)).1]; exact h8) (by rw [(hf 9 (by unfold isRe; decide)).1]; exact h9) hA hB hp (by omega)) (fun _ t3 h3 => ?_)
    simp only [nI_add]
    exact ih _ ⟨hf.tr h3.1, h3.2.1, h3.2.2⟩
  · rintro rec t ⟨hf, hA, hB⟩
    have hgt := h.fr hf gIre
    simp (disch := omega) only [count_c hgt, bd_ok, le_ok, if_pos]
    exact wp_some ⟨hf, hA, hB⟩
  · intro x hx
    rw [(h2.1 10 (by decide)).1, h1.2 x hx]
    exact mk_no.symm
  · intro x hx
    rw [h2.2 x hx]
    exact mk_no.symm
theorem findLoops_c {s : PH} {q n : Nat} {T : Nat → Bool} (hT : RW (s.1 q) T) (hn : 30 ≤ n) : wp (fX9_findLoops n q 6 s) (fun r t => Fr (fun x => x = q) s t ∧ RW (t.1 q) (clI T 6) ∧ r = nI (mk (fun x => clI T 6 (6 * x + x)))) := by
  unfold fX9_findLoops
  simp only [lt_def]
  refine wp_for2 6 (by omega) (fun b t => Fr (fun x => x = q) s t ∧ RW (t.1 q) (clI T b)) ?_ ?_ n 0 s (by omega) ⟨Fr.rf, hT⟩ (by omega)
  · rintro rec b t hb ⟨hf, hB⟩ ih
    simp (disch := omega) only [le_ok, if_neg]
    refine wp_for2 6 (by omega) (fun x t => Fr (fun x => x = q) s t ∧ RW (t.1 q) (fun k => if k / 6 < x then wcl (clI T b) b k else clI T b k)) ?_ ?_ n 0 t (by omega) ⟨hf, hB.congr (fun k _ => by simp)⟩ (by omega)
    · rintro rec2 x t hx ⟨hf, hB⟩ ih2
      simp (disch := omega) only [le_ok, if_neg, ra_ok, jn_def, lt_def, nI_add]
      have hrow : t.1 q x = nI (mk (fun y => clI T b (6 * x + y))) := by
        rw [hB x hx]
        congr 1
        apply mk_congr
        intro y hy
        dsimp only
        rw [if_neg (by omega)]
      have hvia : t.1 q b = nI (mk (fun y => clI T b (6 * b + y))) := by
        rw [hB b hb]
        congr 1
        apply mk_congr
        intro y hy
        dsimp only
        split
        · exact wcl_col hy
        · rfl
      rw [hrow]
      simp (disch := omega) only [bit_c, bd_ok, bI_1]
      have stepE : ∀ k, k < 36 → (if k / 6 < x + 1 then wcl (clI T b) b k else clI T b k) = (if k / 6 < x then wcl (clI T b) b k else if k / 6 = x then wcl (clI T b) b k else clI T b k) := by
        intro k _
        by_cases h1 : k / 6 < x
        · rw [if_pos h1, if_pos (by omega)]
        · by_cases h2 : k / 6 = x
          · rw [if_pos (by omega), if_neg h1, if_pos h2]
          · rw [if_neg (by omega), if_neg h1, if_neg h2]
      by_cases hc : clI T b (6 * x + b) = true
      · rw [if_pos hc]
        simp (disch := omega) only [wa_ok, cl_ok]
        rw [hrow, hvia, mk_or]
        refine ih2 _ ⟨hf.tr (Fr.si rfl), fun z hz => ?_⟩
        rw [si_q]
        dsimp only
        by_cases e : z = x
        · rw [if_pos e]
          congr 1
          apply mk_congr
          intro y hy
          rw [if_pos (by omega), e]
          unfold wcl
          rw [show (6 * x + y) / 6 = x by omega, show (6 * x + y) % 6 = y by omega, hc, Bool.true_and]
        · rw [if_neg e, hB z hz]
          congr 1
          apply mk_congr
          intro y hy
          dsimp only
          by_cases h1 : (6 * z + y) / 6 < x
          · rw [if_pos h1, if_pos (by omega)]
          · rw [if_neg h1, if_neg (by omega)]
      · rw [if_neg hc]
        have hc' : clI T b (6 * x + b) = false := by simpa using hc
        refine ih2 _ ⟨hf, hB.congr (fun k hk => ?_)⟩
        rw [stepE k hk]
        by_cases h1 : k / 6 < x
        · rw [if_pos h1, if_pos h1]
        · rw [if_neg h1, if_neg h1]
          by_cases h2 : k / 6 = x
          · rw [if_pos h2]
            unfold wcl
            rw [h2, hc', Bool.false_and, Bool.or_false]
          · rw [if_neg h2]
    · rintro rec2 t ⟨hf, hB⟩
      simp (disch := omega) only [le_ok, if_pos, nI_add, lt_def]
      refine ih _ ⟨hf, hB.congr (fun k hk => ?_)⟩
      rw [if_pos (by omega)]
      rfl
  · rintro rec t ⟨hf, hB⟩
    simp (disch := omega) only [le_ok, if_pos]
    refine wp_for3 6 (by omega) (fun j v t' => t' = t ∧ v = nI (mk (fun y => decide (y < j) && clI T 6 (6 * y + y)))) ?_ ?_ n 0 _ t (by omega) ⟨rfl, ?_⟩ (by omega)
    · rintro rec2 j v t' hj ⟨rfl, rfl⟩ ih2
      simp (disch := omega) only [le_ok, if_neg, ra_ok, lt_def, nI_add]
      rw [hB j hj, mk_sh hj, mk_and, mk_or]
      refine ih2 _ _ ⟨rfl, ?_⟩
      congr 1
      apply mk_congr
      intro y hy
      by_cases e : y = j
      · subst e
        simp
      · by_cases h1 : y < j
        · simp [h1, e, show y < j + 1 by omega]
        · simp [h1, e, show ¬ y < j + 1 by omega]
    · rintro rec2 v t' ⟨rfl, rfl⟩
      simp (disch := omega) only [le_ok, if_pos]
      refine wp_some ⟨hf, hB, ?_⟩
      congr 1
    · rw [← mk_no]
      congr 1
