/-! ===== the class: joining and adding sets of words ===== -/
theorem wne (i j : Nat) : wId i 1 ≠ wId j 0 := by unfold wId; omega
theorem wne' (i j : Nat) : wId i 0 ≠ wId j 1 := by unfold wId; omega
theorem wij {i j : Nat} (h : i ≠ j) (k : Nat) : wId i k ≠ wId j k := by unfold wId; omega
theorem take2_3 (l : List Nat) : (l.take 3).take 2 = l.take 2 := by rw [List.take_take]; rfl
theorem take1_3 (l : List Nat) : (l.take 3).take 1 = l.take 1 := by rw [List.take_take]; rfl
theorem JL_nil {A B : WLs} : JL A B [] ↔ A [] ∧ B [] := by
  constructor
  · rintro ⟨a, b, ha, hb, e⟩
    have e' : (a ++ b) = [] := by
      cases h : a ++ b with
      | nil => rfl
      | cons x l => rw [h] at e; simp at e
    obtain ⟨h1, h2⟩ := List.append_eq_nil_iff.mp e'
    subst h1; subst h2
    exact ⟨ha, hb⟩
  · rintro ⟨ha, hb⟩
    exact ⟨[], [], ha, hb, rfl⟩
theorem JL_tl {A B : WLs} (hB : VS B) (x c : Nat) : cd (tlS x (JL A B)) c ↔ cd (J2 (tlS x A) B) c ∨ (A [] ∧ cd (tlS x B) c) := by
  constructor
  · rintro ⟨l, ⟨a, b, ha, hb, e⟩, ec⟩
    cases a with
    | nil =>
      right
      rw [List.nil_append, List.take_of_length_le (hB b hb).1] at e
      exact ⟨ha, l, by unfold tlS; rw [e]; exact hb, ec⟩
    | cons y a =>
      left
      rw [List.cons_append] at e
      have e2 : x :: l = y :: (a ++ b).take 2 := e
      obtain ⟨rfl, rfl⟩ := List.cons.inj e2
      exact ⟨_, ⟨a, b, ha, hb, rfl⟩, ec⟩
  · rintro (⟨l, ⟨a, b, ha, hb, e⟩, ec⟩ | ⟨hn, l, hl, ec⟩)
    · exact ⟨l, ⟨x :: a, b, ha, hb, by rw [e]; rfl⟩, ec⟩
    · exact ⟨l, ⟨[], x :: l, hn, hl, by rw [List.nil_append, List.take_of_length_le (hB _ hl).1]⟩, ec⟩
theorem JL_2 {A B : WLs} (c : Nat) : cd (ctS 2 (JL A B)) c ↔ cd (J2 (ctS 2 A) B) c := by
  constructor
  · rintro ⟨_, ⟨_, ⟨a, b, ha, hb, rfl⟩, rfl⟩, ec⟩
    refine ⟨_, ⟨a.take 2, b, ⟨a, ha, rfl⟩, hb, ?_⟩, ec⟩
    rw [take2_3, List.take_append, List.take_append, List.take_take, List.length_take]
    congr 2
    omega
  · rintro ⟨_, ⟨_, b, ⟨a, ha, rfl⟩, hb, rfl⟩, ec⟩
    refine ⟨_, ⟨_, ⟨a, b, ha, hb, rfl⟩, rfl⟩, ?_⟩
    rw [← ec]
    congr 1
    rw [take2_3, List.take_append, List.take_append, List.take_take, List.length_take]
    congr 2
    omega
theorem JL_1 {A B : WLs} (hA : VS A) (hne : ∃ b, B b) (c : Nat) : cd (ctS 1 (JL A B)) c ↔ (1 ≤ c ∧ cd (ctS 1 A) c) ∨ (A [] ∧ cd (ctS 1 B) c) := by
  constructor
  · rintro ⟨_, ⟨_, ⟨a, b, ha, hb, rfl⟩, rfl⟩, ec⟩
    rw [take1_3] at ec
    cases a with
    | nil => exact Or.inr ⟨ha, _, ⟨b, hb, rfl⟩, ec⟩
    | cons y a =>
      left
      have e2 : enc [y] = c := ec
      refine ⟨?_, [y], ⟨y :: a, ha, rfl⟩, e2⟩
      rw [← e2]; simp [enc]
  · rintro (⟨h1, _, ⟨a, ha, rfl⟩, ec⟩ | ⟨hn, _, ⟨b, hb, rfl⟩, ec⟩)
    · obtain ⟨b, hb⟩ := hne
      cases a with
      | nil => simp [enc] at ec; omega
      | cons y a => exact ⟨_, ⟨_, ⟨y :: a, b, ha, hb, rfl⟩, rfl⟩, by rw [take1_3]; exact ec⟩
    · exact ⟨_, ⟨_, ⟨[], b, hn, hb, rfl⟩, rfl⟩, by rw [take1_3]; exact ec⟩
theorem join_c {s : PH} {i a b n : Nat} {A B : WLs} (hA : WSt A a s) (hB : WSt B b s) (hia : i ≠ a) (hib : i ≠ b) (hn : 10 ≤ n) : wp (fX10_join n i a b s) (fun _ t => Fr (isWd i) s t ∧ WSt (JL A B) i t) := by
  unfold fX10_join
  simp only [lt_def, jn_def]
  have hdrop : (∀ l, ¬ JL A B l) → wp (bd (fX10_drop n i s) fun _ s3 => some ((), s3)) (fun _ t => Fr (isWd i) s t ∧ WSt (JL A B) i t) := by
    intro h0
    refine wp_call (drop_c hn) (fun _ t h => ?_)
    exact wp_some ⟨h.1, h.2.ext (fun l => ⟨fun h => h.elim, fun h => h0 l h⟩)⟩
  by_cases ha0 : s.2.1 (wId a 0) 2 = 0
  · rw [if_pos ha0]
    exact hdrop (fun l ⟨x, y, hx, _⟩ => hA.some.mp ha0 x hx)
  · rw [if_neg ha0]
    by_cases hb0 : s.2.1 (wId b 0) 2 = 0
    · rw [if_pos hb0]
      exact hdrop (fun l ⟨x, y, _, hy, _⟩ => hB.some.mp hb0 y hy)
    · rw [if_neg hb0]
      have hne : ∃ b, B b := Classical.byContradiction (fun h => hb0 (hB.some.mpr (fun l hl => h ⟨l, hl⟩)))
      simp (disch := omega) only [ra_ok, wa_ok, cl_ok]
      have hvan : (s.2.1 (wId a 1) 0 = 0) ↔ ¬ A [] := by
        rw [hA.2.1.z]
        constructor
        · intro h hp; exact h 0 ⟨rfl, hp⟩
        · rintro h c ⟨_, hp⟩; exact h hp
      have main : ∀ (v : Bool), (v = true ↔ A []) → wp (loo2 (fun (recrec15 : Int32 → PH → Option (Unit × PH)) (v13) (s14) =>
          if nI 6 ≤ v13 then
            bd (fX10_joinPairs n (s14.2.1 (wId a 0) 1) b s14) fun r17 s16 =>
              if bI v = 0 then some ((), sl (sl s16 (wId i 0) 1 r17) (wId i 0) 2 ((sl s16 (wId i 0) 1 r17).2.1 (wId a 0) 2 &&& -2 ||| 0))
              else some ((), sl (sl s16 (wId i 0) 1 r17) (wId i 0) 2 ((sl s16 (wId i 0) 1 r17).2.1 (wId a 0) 2 &&& -2 ||| (sl s16 (wId i 0) 1 r17).2.1 (wId b 0) 2))
          else ra 6 v13 (s14.2.1 (wId a 1)) fun u23 => bd (fX10_joinPairs n u23 b s14) fun r25 s24 =>
              if bI v = 0 then wa 6 v13 (recrec15 (v13 + nI 1) (sl s24 (wId i 1) v13.toNatClampNeg (r25 ||| 0)))
              else ra 6 v13 (s24.2.1 (wId b 1)) fun u31 => wa 6 v13 (recrec15 (v13 + nI 1) (sl s24 (wId i 1) v13.toNatClampNeg (r25 ||| u31)))) n (nI 1) (sl s (wId i 1) 0 (s.2.1 (wId a 1) 0 &&& s.2.1 (wId b 1) 0))) (fun _ t => Fr (isWd i) s t ∧ WSt (JL A B) i t) := by
        intro v hv
        have l0 : LB (s.2.1 (wId a 1) 0 &&& s.2.1 (wId b 1) 0) (fun c => c = 0 ∧ JL A B []) := (hA.2.1.and hB.2.1).of (fun c => by
          rw [JL_nil]
          exact ⟨fun h => ⟨h.1.1, h.1.2, h.2.2⟩, fun h => ⟨⟨h.1, h.2.1⟩, h.1, h.2.2⟩⟩)
        refine wp_for2 6 (by omega) (fun d t => 1 ≤ d ∧ Fr (isWd i) s t ∧ LB (t.2.1 (wId i 1) 0) (fun c => c = 0 ∧ JL A B []) ∧ ∀ x, x + 1 < d → LB (t.2.1 (wId i 1) (x + 1)) (cd (tlS x (JL A B)))) ?_ ?_ n 1 _ (by omega) ⟨Nat.le_refl 1, Fr.sl (Or.inr rfl), ?_, fun x hx => by omega⟩ (by omega)
        · rintro rec d t hd ⟨h1, hf, hl0, hl⟩ ih
          obtain ⟨e, rfl⟩ : ∃ e, d = e + 1 := ⟨d - 1, by omega⟩
          have hAt : WSt A a t := hA.fr hf (isWd_ne hia)
          have hBt : WSt B b t := hB.fr hf (isWd_ne hib)
          simp (disch := omega) only [le_ok, if_neg, ra_ok]
          refine wp_call (joinPairs_c (V2.tl hA.1 e) hBt hne (hAt.2.2.1 e (by omega)) hn) (fun r t2 h2 => ?_)
          obtain ⟨rfl, hr⟩ := h2
          simp (disch := omega) only [nI_add, wa_ok, ra_ok, cl_ok, bI_0]
          have fin : ∀ w : Int64, LB w (cd (tlS e (JL A B))) → wp (rec (nI (e + 1 + 1)) (sl t2 (wId i 1) (e + 1) w)) (fun _ t => Fr (isWd i) s t ∧ WSt (JL A B) i t) := by
            intro w hw
            refine ih _ ⟨by omega, hf.tr (Fr.sl (Or.inr rfl)), ?_, fun x hx => ?_⟩
            · rw [sl_q]
              dsimp only
              rw [if_neg (by omega)]
              exact hl0
            · rw [sl_q]
              dsimp only
              by_cases ex : x = e
              · rw [if_pos (by omega), ex]; exact hw
              · rw [if_neg (by omega)]; exact hl x (by omega)
          by_cases hv0 : v = false
          · rw [if_pos hv0]
            refine fin _ ((hr.or LB.zero).of (fun c => ?_))
            rw [JL_tl hB.1]
            have : ¬ A [] := fun h => by rw [hv.mpr h] at hv0; cases hv0
            exact ⟨fun h => h.elim Or.inl (fun h => h.elim), fun h => h.elim Or.inl (fun h => absurd h.1 this)⟩
          · rw [if_neg hv0]
            refine fin _ ((hr.or (hBt.2.2.1 e (by omega))).of (fun c => ?_))
            rw [JL_tl hB.1]
            have : A [] := hv.mp (Bool.of_not_eq_false hv0)
            exact ⟨fun h => h.elim Or.inl (fun h => Or.inr ⟨this, h⟩), fun h => h.elim Or.inl (fun h => Or.inr h.2)⟩
        · rintro rec t ⟨h1, hf, hl0, hl⟩
          have hAt : WSt A a t := hA.fr hf (isWd_ne hia)
          have hBt : WSt B b t := hB.fr hf (isWd_ne hib)
          simp (disch := omega) only [le_ok, if_pos]
          refine wp_call (joinPairs_c (V2.ct hA.1) hBt hne hAt.2.2.2.1 hn) (fun r t2 h2 => ?_)
          obtain ⟨rfl, hr⟩ := h2
          simp only [bI_0]
          rw [sl_r _ _ _ _ (wij (Ne.symm hia) 0), sl_r _ _ _ _ (wij (Ne.symm hib) 0)]
          have lh : LB (t2.2.1 (wId a 0) 2 &&& -2) (fun c => 1 ≤ c ∧ cd (ctS 1 A) c) := by
            intro c
            rw [tb_and, tb_m2, Bool.and_eq_true, hAt.2.2.2.2 c, decide_eq_true_eq]
            exact ⟨fun h => ⟨h.2.1, h.1⟩, fun h => ⟨h.2, h.1, hAt.2.2.2.2.lt h.2⟩⟩
          have fin : ∀ w : Int64, LB w (cd (ctS 1 (JL A B))) → wp (some ((), sl (sl t2 (wId i 0) 1 r) (wId i 0) 2 w)) (fun _ t => Fr (isWd i) s t ∧ WSt (JL A B) i t) := by
            intro w hw
            refine wp_some ⟨(hf.tr (Fr.sl (Or.inl rfl))).tr (Fr.sl (Or.inl rfl)), JL.vs hA.1 hB.1, ?_, fun x hx => ?_, ?_, ?_⟩
            · rw [sl_r _ _ _ _ (wne i i), sl_r _ _ _ _ (wne i i)]; exact hl0
            · rw [sl_r _ _ _ _ (wne i i), sl_r _ _ _ _ (wne i i)]; exact hl x (by omega)
            · rw [sl_q]
              dsimp only
              rw [if_neg (by decide), sl_q]
              dsimp only
              rw [if_pos rfl]
              exact hr.of (fun c => (JL_2 c).symm)
            · rw [sl_q]
              dsimp only
              rw [if_pos rfl]
              exact hw
          by_cases hv0 : v = false
          · rw [if_pos hv0]
            refine fin _ ((lh.or LB.zero).of (fun c => ?_))
            rw [JL_1 hA.1 hne]
            have : ¬ A [] := fun h => by rw [hv.mpr h] at hv0; cases hv0
            exact ⟨fun h => h.elim Or.inl (fun h => h.elim), fun h => h.elim Or.inl (fun h => absurd h.1 this)⟩
          · rw [if_neg hv0]
            refine fin _ ((lh.or hBt.2.2.2.2).of (fun c => ?_))
            rw [JL_1 hA.1 hne]
            have : A [] := hv.mp (Bool.of_not_eq_false hv0)
            exact ⟨fun h => h.elim Or.inl (fun h => Or.inr ⟨this, h⟩), fun h => h.elim Or.inl (fun h => Or.inr h.2)⟩
        · rw [sl_q]
          dsimp only
          rw [if_pos rfl]
          exact l0
      by_cases hz : s.2.1 (wId a 1) 0 = 0
      · rw [if_pos hz]
        exact main false ⟨fun h => absurd h (by decide), fun h => absurd h (hvan.mp hz)⟩
      · rw [if_neg hz]
        exact main true ⟨fun _ => Classical.byContradiction (fun h => hz (hvan.mpr h)), fun _ => rfl⟩
theorem ctS_u {A S : WLs} (k c : Nat) : cd (ctS k (uS S A)) c ↔ cd (ctS k S) c ∨ cd (ctS k A) c := by
  constructor
  · rintro ⟨_, ⟨a, h | h, rfl⟩, e⟩
    · exact Or.inl ⟨_, ⟨a, h, rfl⟩, e⟩
    · exact Or.inr ⟨_, ⟨a, h, rfl⟩, e⟩
  · rintro (⟨_, ⟨a, h, rfl⟩, e⟩ | ⟨_, ⟨a, h, rfl⟩, e⟩)
    · exact ⟨_, ⟨a, Or.inl h, rfl⟩, e⟩
    · exact ⟨_, ⟨a, Or.inr h, rfl⟩, e⟩
/-- row d of the rests of a set -/
def rwS (W : WLs) (d c : Nat) : Prop := if d = 0 then c = 0 ∧ W [] else cd (tlS (d - 1) W) c
theorem WSt.rw {W : WLs} {i : Nat} {s : PH} (h : WSt W i s) {d : Nat} (hd : d < 6) : LB (s.2.1 (wId i 1) d) (rwS W d) := by
  cases d with
  | zero => exact h.2.1.of (fun c => by unfold rwS; rw [if_pos rfl])
  | succ x => exact (h.2.2.1 x (by omega)).of (fun c => by unfold rwS; rw [if_neg (by omega)]; rfl)
theorem rwS_u {A S : WLs} (d c : Nat) : rwS (uS S A) d c ↔ rwS S d c ∨ rwS A d c := by
  unfold rwS
  by_cases h : d = 0
  · rw [if_pos h, if_pos h, if_pos h]
    exact ⟨fun ⟨h1, h2⟩ => h2.elim (fun h => Or.inl ⟨h1, h⟩) (fun h => Or.inr ⟨h1, h⟩), fun h => h.elim (fun h => ⟨h.1, Or.inl h.2⟩) (fun h => ⟨h.1, Or.inr h.2⟩)⟩
  · rw [if_neg h, if_neg h, if_neg h]
    exact ⟨fun ⟨l, h1, e⟩ => h1.elim (fun h => Or.inl ⟨l, h, e⟩) (fun h => Or.inr ⟨l, h, e⟩), fun h => h.elim (fun ⟨l, h, e⟩ => ⟨l, Or.inl h, e⟩) (fun ⟨l, h, e⟩ => ⟨l, Or.inr h, e⟩)⟩
theorem rwS_l {W : WLs} (hW : VS W) {l : List Nat} (h : VL l) : ∃ d c, d < 6 ∧ (W l ↔ rwS W d c) ∧ ∀ W', VS W' → (W' l ↔ rwS W' d c) := by
  have key : ∃ d c, d < 6 ∧ ∀ W', VS W' → (W' l ↔ rwS W' d c) := by
    cases l with
    | nil =>
      refine ⟨0, 0, by decide, fun W' _ => ?_⟩
      unfold rwS
      rw [if_pos rfl]
      exact ⟨fun h => ⟨rfl, h⟩, fun h => h.2⟩
    | cons x l =>
      have hx : x < 5 := h.2 x (by simp)
      refine ⟨x + 1, enc l, by omega, fun W' hW' => ?_⟩
      unfold rwS
      rw [if_neg (by omega), Nat.add_sub_cancel]
      constructor
      · intro h1; exact ⟨l, h1, rfl⟩
      · rintro ⟨l', h1, e⟩
        have hl : VL l := ⟨Nat.le_trans (Nat.le_succ _) h.1, fun y hy => h.2 y (by simp [hy])⟩
        have hl' : VL l' := ⟨Nat.le_trans (Nat.le_succ _) (hW' _ h1).1, fun y hy => (hW' _ h1).2 y (by simp [hy])⟩
        rw [← enc_inj hl' hl e]
        exact h1
  obtain ⟨d, c, hd, hk⟩ := key
  exact ⟨d, c, hd, hk W hW, hk⟩
theorem addAll_c {s : PH} {i a n : Nat} {A S : WLs} (hS : WSt S i s) (hA : WSt A a s) (hia : i ≠ a) (hn : 10 ≤ n) : wp (fX10_addAll n i a s) (fun r t => Fr (isWd i) s t ∧ WSt (uS S A) i t ∧ PB r (∃ l, A l ∧ ¬ S l)) := by
  unfold fX10_addAll
  simp only [lt_def]
  refine wp_for3 6 (by omega) (fun d v t => Fr (isWd i) s t ∧ (t.2.1 (wId i 0) = s.2.1 (wId i 0)) ∧ (∀ e, e < 6 → LB (t.2.1 (wId i 1) e) (if e < d then rwS (uS S A) e else rwS S e)) ∧ PB v (∃ e c, e < d ∧ rwS A e c ∧ ¬ rwS S e c)) ?_ ?_ n 0 _ s (by omega) ⟨Fr.rf, rfl, fun e he => (hS.rw he).of (fun c => by rw [if_neg (by omega)]), PB.f (fun ⟨e, c, h, _⟩ => by omega)⟩ (by omega)
  · rintro rec d v t hd ⟨hf, ho, hl, hv⟩ ih
    have hAt : WSt A a t := hA.fr hf (isWd_ne hia)
    have hSd : LB (t.2.1 (wId i 1) d) (rwS S d) := (hl d hd).of (fun c => by rw [if_neg (by omega)])
    have hnot := (hAt.rw hd).not hSd
    simp (disch := omega) only [le_ok, if_neg, ra_ok, wa_ok, cl_ok, jn_def, lt_def, nI_add]
    by_cases hz : t.2.1 (wId a 1) d &&& (t.2.1 (wId i 1) d ^^^ -1) = 0
    · rw [if_pos hz]
      have hno := hnot.z.mp hz
      refine ih _ _ ⟨hf, ho, fun e he => ?_, hv.of ⟨?_, ?_⟩⟩
      · by_cases ed : e = d
        · subst ed
          refine hSd.of (fun c => ?_)
          rw [if_pos (by omega), rwS_u]
          exact ⟨Or.inl, fun h => h.elim id (fun h => Classical.byContradiction (fun h' => hno c ⟨h, h'⟩))⟩
        · refine (hl e he).of (fun c => ?_)
          by_cases h1 : e < d
          · rw [if_pos h1, if_pos (by omega)]
          · rw [if_neg h1, if_neg (by omega)]
      · rintro ⟨e, c, h1, h2⟩
        exact ⟨e, c, by omega, h2⟩
      · rintro ⟨e, c, h1, h2⟩
        by_cases ed : e = d
        · subst ed; exact absurd h2 (hno c)
        · exact ⟨e, c, by omega, h2⟩
    · rw [if_neg hz]
      have hex : ∃ c, rwS A d c ∧ ¬ rwS S d c := Classical.byContradiction (fun h => hz (hnot.z.mpr (fun c hc => h ⟨c, hc⟩)))
      obtain ⟨c, hc⟩ := hex
      refine ih _ _ ⟨hf.tr (Fr.sl (Or.inr rfl)), ?_, fun e he => ?_, PB.t ⟨d, c, by omega, hc⟩⟩
      · rw [sl_r _ _ _ _ (wne' i i)]; exact ho
      · rw [sl_q]
        dsimp only
        by_cases ed : e = d
        · rw [if_pos ed]
          refine (hSd.or (hAt.rw hd)).of (fun c => ?_)
          rw [if_pos (by omega), rwS_u, ed]
        · rw [if_neg ed]
          refine (hl e he).of (fun c => ?_)
          by_cases h1 : e < d
          · rw [if_pos h1, if_pos (by omega)]
          · rw [if_neg h1, if_neg (by omega)]
  · rintro rec v t ⟨hf, ho, hl, hv⟩
    have hAt : WSt A a t := hA.fr hf (isWd_ne hia)
    simp (disch := omega) only [le_ok, if_pos]
    have hvB : ∀ u : PH, rz v u = some (v, u) := by
      intro u
      rcases hv with ⟨rfl, _⟩ | ⟨rfl, _⟩
      · exact rz1 _
      · exact rz0 _
    rw [hvB]
    refine wp_some ⟨(hf.tr (Fr.sl (Or.inl rfl))).tr (Fr.sl (Or.inl rfl)), ⟨?_, ?_, fun x hx => ?_, ?_, ?_⟩, hv.of ⟨?_, ?_⟩⟩
    · rintro l (h | h)
      · exact hS.1 l h
      · exact hA.1 l h
    · rw [sl_r _ _ _ _ (wne i i), sl_r _ _ _ _ (wne i i)]
      exact (hl 0 (by decide)).of (fun c => by rw [if_pos (by decide)]; unfold rwS; rw [if_pos rfl])
    · rw [sl_r _ _ _ _ (wne i i), sl_r _ _ _ _ (wne i i)]
      exact (hl (x + 1) (by omega)).of (fun c => by rw [if_pos (by omega)]; unfold rwS; rw [if_neg (by omega)]; rfl)
    · rw [sl_q]
      dsimp only
      rw [if_neg (by decide), sl_q]
      dsimp only
      rw [if_pos rfl, ho]
      exact (hS.2.2.2.1.or hAt.2.2.2.1).of (fun c => (ctS_u 2 c).symm)
    · rw [sl_q]
      dsimp only
      rw [if_pos rfl, sl_q, sl_r _ _ _ _ (wij (Ne.symm hia) 0)]
      dsimp only
      rw [if_neg (by decide), ho]
      exact (hS.2.2.2.2.or hAt.2.2.2.2).of (fun c => (ctS_u 1 c).symm)
    · rintro ⟨e, c, h1, h2, h3⟩
      unfold rwS at h2 h3
      by_cases e0 : e = 0
      · rw [if_pos e0] at h2 h3
        exact ⟨[], h2.2, fun h => h3 ⟨h2.1, h⟩⟩
      · rw [if_neg e0] at h2 h3
        obtain ⟨l, hl1, hl2⟩ := h2
        exact ⟨_, hl1, fun h => h3 ⟨l, h, hl2⟩⟩
    · rintro ⟨l, h1, h2⟩
      obtain ⟨d, c, hd, e1, e2⟩ := rwS_l hA.1 (hA.1 l h1)
      exact ⟨d, c, hd, e1.mp h1, fun h => h2 ((e2 S hS.1).mpr h)⟩
theorem addSelf_c {s : PH} {i n : Nat} {S : WLs} (hS : WSt S i s) (hn : 10 ≤ n) : wp (fX10_addAll n i i s) (fun r t => Fr (isWd i) s t ∧ WSt S i t ∧ r = nI 0) := by
  unfold fX10_addAll
  simp only [lt_def]
  refine wp_for3 6 (by omega) (fun d v t => t = s ∧ v = nI 0) ?_ ?_ n 0 _ s (by omega) ⟨rfl, rfl⟩ (by omega)
  · rintro rec d v t hd ⟨rfl, rfl⟩ ih
    have hnot := (hS.rw hd).not (hS.rw hd)
    simp (disch := omega) only [le_ok, if_neg, ra_ok, wa_ok, cl_ok, jn_def, lt_def, nI_add]
    rw [if_pos (hnot.z.mpr (fun c h => h.2 h.1))]
    exact ih _ _ ⟨rfl, rfl⟩
  · rintro rec v t ⟨rfl, rfl⟩
    simp (disch := omega) only [le_ok, if_pos, rz0]
    refine wp_some ⟨Fr.tr (P := isWd i) (Fr.sl (Or.inl rfl)) (Fr.sl (Or.inl rfl)), ⟨hS.1, ?_, fun x hx => ?_, ?_, ?_⟩, rfl⟩
    · rw [sl_r _ _ _ _ (wne i i), sl_r _ _ _ _ (wne i i)]; exact hS.2.1
    · rw [sl_r _ _ _ _ (wne i i), sl_r _ _ _ _ (wne i i)]; exact hS.2.2.1 x hx
    · rw [sl_q]
      dsimp only
      rw [if_neg (by decide), sl_q]
      dsimp only
      rw [if_pos rfl]
      exact (hS.2.2.2.1.or hS.2.2.2.1).of (fun c => or_self_iff)
    · rw [sl_q]
      dsimp only
      rw [if_pos rfl, sl_q]
      dsimp only
      rw [if_neg (by decide)]
      exact (hS.2.2.2.2.or hS.2.2.2.2).of (fun c => or_self_iff)
