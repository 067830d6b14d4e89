/-! ===== the class: sets of words ===== -/
def tlS (x : Nat) (W : WLs) : WLs := fun l => W (x :: l)
/-- the longs of a set: object o, rests r -/
def WSf (W : WLs) (o r : Nat → Int64) : Prop := VS W ∧ LB (r 0) (fun c => c = 0 ∧ W []) ∧ (∀ x, x < 5 → LB (r (x + 1)) (cd (tlS x W))) ∧ LB (o 1) (cd (ctS 2 W)) ∧ LB (o 2) (cd (ctS 1 W))
def WSt (W : WLs) (i : Nat) (s : PH) : Prop := WSf W (s.2.1 (wId i 0)) (s.2.1 (wId i 1))
def isWd (i : Nat) (q : Nat) : Prop := q = wId i 0 ∨ q = wId i 1
theorem isWd_ne {i j : Nat} (h : i ≠ j) : ∀ k, k < 2 → ¬ isWd i (wId j k) := fun k hk => by unfold isWd wId; omega
theorem WSt.fr {W : WLs} {i : Nat} {P : Nat → Prop} {s t : PH} (h : WSt W i s) (hf : Fr P s t) (hP : ∀ k, k < 2 → ¬ P (wId i k)) : WSt W i t := by
  unfold WSt
  rw [(hf _ (hP 0 (by decide))).2.1, (hf _ (hP 1 (by decide))).2.1]
  exact h
theorem WSt.vs {W : WLs} {i : Nat} {s : PH} (h : WSt W i s) : VS W := h.1
theorem WSt.ext {W W' : WLs} {i : Nat} {s : PH} (h : WSt W i s) (e : ∀ l, W l ↔ W' l) : WSt W' i s := by
  have : W = W' := funext fun l => propext (e l)
  rw [← this]; exact h
/-- some word is there -/
theorem WSt.some {W : WLs} {i : Nat} {s : PH} (h : WSt W i s) : (s.2.1 (wId i 0) 2 = 0) ↔ ∀ l, ¬ W l := by
  rw [h.2.2.2.2.z]
  constructor
  · intro h1 l hl
    exact h1 _ ⟨_, ⟨l, hl, rfl⟩, rfl⟩
  · rintro h1 c ⟨_, ⟨a, ha, rfl⟩, _⟩
    exact h1 a ha
theorem enc0 {l : List Nat} (h : VL l) : enc l = 0 ↔ l = [] := by
  constructor
  · intro e
    exact enc_inj h VL.nil e
  · rintro rfl; rfl
theorem hd_0 {B : WLs} (hB : VS B) : cd (ctS 1 B) 0 ↔ B [] := by
  constructor
  · rintro ⟨_, ⟨a, ha, rfl⟩, e⟩
    rw [enc0 (VL.take 1 (hB a ha).2 (by omega))] at e
    cases a with
    | nil => exact ha
    | cons x a => simp at e
  · intro h
    exact ⟨[], ⟨[], h, rfl⟩, rfl⟩
theorem hd_1 {B : WLs} (y : Nat) : cd (ctS 1 B) (y + 1) ↔ ∃ b, B (y :: b) := by
  constructor
  · rintro ⟨_, ⟨a, ha, rfl⟩, e⟩
    cases a with
    | nil => simp [enc] at e
    | cons x a =>
      have : x = y := by simpa [enc] using e
      subst this
      exact ⟨a, ha⟩
  · rintro ⟨b, hb⟩
    exact ⟨[y], ⟨_, hb, by simp⟩, rfl⟩
theorem cd_lt1 {B : WLs} (hB : VS B) {c : Nat} (h : cd (ctS 1 B) c) : c < 6 := by
  obtain ⟨_, ⟨a, ha, rfl⟩, rfl⟩ := h
  cases a with
  | nil => simp [enc]
  | cons x a =>
    have := (hB _ ha).2 x (by simp)
    simp [enc]; omega
/-- at most two letters -/
def V2 (P : WLs) : Prop := ∀ l, P l → l = [] ∨ (∃ x, x < 5 ∧ l = [x]) ∨ ∃ x y, x < 5 ∧ y < 5 ∧ l = [x, y]
theorem V2.ct {W : WLs} (h : VS W) : V2 (ctS 2 W) := by
  rintro _ ⟨a, ha, rfl⟩
  rcases (h a ha).c with rfl | ⟨x, hx, rfl⟩ | ⟨x, y, hx, hy, rfl⟩ | ⟨x, y, z, hx, hy, hz, rfl⟩
  · exact Or.inl rfl
  · exact Or.inr (Or.inl ⟨x, hx, rfl⟩)
  · exact Or.inr (Or.inr ⟨x, y, hx, hy, rfl⟩)
  · exact Or.inr (Or.inr ⟨x, y, hx, hy, rfl⟩)
theorem V2.tl {W : WLs} (h : VS W) (u : Nat) : V2 (tlS u W) := by
  intro l hl
  have hv := h _ hl
  rcases hv.c with e | ⟨x, hx, e⟩ | ⟨x, y, hx, hy, e⟩ | ⟨x, y, z, hx, hy, hz, e⟩
  · cases e
  · exact Or.inl (List.cons.inj e).2
  · exact Or.inr (Or.inl ⟨y, hy, (List.cons.inj e).2⟩)
  · exact Or.inr (Or.inr ⟨y, z, hy, hz, (List.cons.inj e).2⟩)
def J2 (P B : WLs) : WLs := fun l => ∃ a b, P a ∧ B b ∧ l = (a ++ b).take 2
theorem J2_cd {P B : WLs} (hP : V2 P) (hB : VS B) (hne : ∃ b, B b) (c : Nat) : cd (J2 P B) c ↔ ((6 ≤ c ∧ cd P c) ∨ (P [] ∧ cd (ctS 2 B) c)) ∨ ∃ x, x < 5 ∧ P [x] ∧ ((c = x + 1 ∧ B []) ∨ ∃ y b, B (y :: b) ∧ c = 6 * (x + 1) + (y + 1)) := by
  constructor
  · rintro ⟨_, ⟨a, b, ha, hb, rfl⟩, rfl⟩
    rcases hP a ha with rfl | ⟨x, hx, rfl⟩ | ⟨x, y, hx, hy, rfl⟩
    · exact Or.inl (Or.inr ⟨ha, _, ⟨b, hb, rfl⟩, rfl⟩)
    · right
      refine ⟨x, hx, ha, ?_⟩
      cases b with
      | nil => exact Or.inl ⟨rfl, hb⟩
      | cons y b => exact Or.inr ⟨y, b, hb, by simp [enc]⟩
    · left; left
      refine ⟨?_, [x, y], ha, by simp [enc]⟩
      simp [enc]; omega
  · rintro ((⟨h6, l, hl, e⟩ | ⟨hn, _, ⟨b, hb, rfl⟩, e⟩) | ⟨x, hx, hPx, (⟨e, hb⟩ | ⟨y, b, hb, e⟩)⟩)
    · obtain ⟨b, hb⟩ := hne
      rcases hP l hl with rfl | ⟨x, hx, rfl⟩ | ⟨x, y, hx, hy, rfl⟩
      · simp [enc] at e; omega
      · simp [enc] at e; omega
      · exact ⟨[x, y], ⟨[x, y], b, hl, hb, by simp⟩, e⟩
    · exact ⟨b.take 2, ⟨[], b, hn, hb, by simp⟩, e⟩
    · exact ⟨[x], ⟨[x], [], hPx, hb, by simp⟩, by rw [e]; rfl⟩
    · exact ⟨[x, y], ⟨[x], y :: b, hPx, hb, by simp⟩, by rw [e]; rfl⟩
theorem joinPairs_c {s : PH} {i n : Nat} {u : Int64} {P B : WLs} (hP : V2 P) (hB : WSt B i s) (hne : ∃ b, B b) (hu : LB u (cd P)) (hn : 10 ≤ n) : wp (fX10_joinPairs n u i s) (fun r t => t = s ∧ LB r (cd (J2 P B))) := by
  obtain ⟨hv, _, _, hB2, hB1⟩ := hB
  unfold fX10_joinPairs
  simp only [lt_def, jn_def]
  have l1 : LB (u &&& (-64)) (fun c => 6 ≤ c ∧ cd P c) := by
    intro c
    rw [tb_and, tb_m64, Bool.and_eq_true, hu c, decide_eq_true_eq]
    constructor
    · rintro ⟨h1, h2⟩; exact ⟨h2.1, h1⟩
    · rintro ⟨h1, h2⟩; exact ⟨h2, h1, hu.lt h2⟩
  have h01 : (u &&& 1 = 0) ↔ ¬ P [] := by
    have : LB (u &&& 1) (fun c => cd P c ∧ c = 0) := by
      intro c
      rw [tb_and, tb_1, Bool.and_eq_true, hu c, decide_eq_true_eq]
    rw [this.z]
    constructor
    · intro h hp
      exact h 0 ⟨⟨[], hp, rfl⟩, rfl⟩
    · rintro h c ⟨⟨l, hl, e⟩, rfl⟩
      rcases hP l hl with rfl | ⟨x, hx, rfl⟩ | ⟨x, y, hx, hy, rfl⟩
      · exact h hl
      · simp [enc] at e
      · simp [enc] at e
  have hpx : ∀ x, x < 5 → (cd P (x + 1) ↔ P [x]) := by
    intro x hx
    constructor
    · rintro ⟨l, hl, e⟩
      rcases hP l hl with rfl | ⟨y, hy, rfl⟩ | ⟨z, y, hz, hy, rfl⟩
      · simp [enc] at e
      · have : y = x := by simpa [enc] using e
        subst this
        exact hl
      · simp [enc] at e; omega
    · intro h
      exact ⟨[x], h, rfl⟩
  have main : ∀ v : Int64, LB v (fun c => (6 ≤ c ∧ cd P c) ∨ (P [] ∧ cd (ctS 2 B) c)) → wp (if u &&& 62 = 0 then some (v, s) else loo3 (fun (recrec9 : Int64 → Int32 → PH → Option (Int64 × PH)) (u6) (v7) (s8) => if nI 6 ≤ v7 then some (u6, s8) else if u >>> (v7.toInt64 &&& 63) &&& 1 = 0 then recrec9 u6 (v7 + nI 1) s8 else recrec9 (u6 ||| (s8.2.1 (wId i 0) 2 &&& 1) <<< (v7.toInt64 &&& 63) ||| (s8.2.1 (wId i 0) 2 &&& 62) <<< ((nI 6 * v7).toInt64 &&& 63)) (v7 + nI 1) s8) n v (nI 1) s) (fun r t => t = s ∧ LB r (cd (J2 P B))) := by
    intro v hv1
    have h62 : (u &&& 62 = 0) → ∀ x, x < 5 → ¬ P [x] := by
      intro h x hx hp
      have h1 : tb (u &&& 62) (x + 1) = true := by
        rw [tb_and, tb_62, Bool.and_eq_true, hu, decide_eq_true_eq]
        exact ⟨(hpx x hx).mpr hp, by omega⟩
      rw [h, tb_0] at h1
      cases h1
    by_cases h0 : u &&& 62 = 0
    · rw [if_pos h0]
      refine wp_some ⟨rfl, hv1.of (fun c => ?_)⟩
      rw [J2_cd hP hv hne]
      constructor
      · exact Or.inl
      · rintro (h1 | ⟨x, hx, h2, _⟩)
        · exact h1
        · exact absurd h2 (h62 h0 x hx)
    · rw [if_neg h0]
      refine wp_for3 6 (by omega) (fun d w t => t = s ∧ 1 ≤ d ∧ LB w (fun c => ((6 ≤ c ∧ cd P c) ∨ (P [] ∧ cd (ctS 2 B) c)) ∨ ∃ x, x + 1 < d ∧ P [x] ∧ ((c = x + 1 ∧ B []) ∨ ∃ y b, B (y :: b) ∧ c = 6 * (x + 1) + (y + 1)))) ?_ ?_ n 1 v s (by omega) ⟨rfl, Nat.le_refl 1, hv1.of (fun c => ?_)⟩ (by omega)
      · rintro rec d w t hd ⟨rfl, h1d, hw⟩ ih
        obtain ⟨e, rfl⟩ : ∃ e, d = e + 1 := ⟨d - 1, by omega⟩
        simp (disch := omega) only [le_ok, if_neg, nI_add, nI_mulN, bit_l]
        by_cases hb : tb u (e + 1) = false
        · rw [if_pos hb]
          refine ih _ _ ⟨rfl, by omega, hw.of (fun c => ?_)⟩
          constructor
          · rintro (h1 | ⟨x, h2, h3⟩)
            · exact Or.inl h1
            · exact Or.inr ⟨x, by omega, h3⟩
          · rintro (h1 | ⟨x, h2, h3⟩)
            · exact Or.inl h1
            · by_cases ex : x = e
              · subst ex
                have := (hu (x + 1)).mpr ((hpx x (by omega)).mpr h3.1)
                rw [hb] at this
                cases this
              · exact Or.inr ⟨x, by omega, h3⟩
        · rw [if_neg hb]
          have hpe : P [e] := (hpx e (by omega)).mp ((hu (e + 1)).mp (Bool.of_not_eq_false hb))
          have la : LB ((t.2.1 (wId i 0) 2 &&& 1) <<< ((nI (e + 1)).toInt64 &&& 63)) (fun c => c = e + 1 ∧ B []) := by
            intro c
            rw [tb_shl _ (by omega), tb_and, tb_1]
            simp only [Bool.and_eq_true, decide_eq_true_eq]
            rw [hB1]
            constructor
            · rintro ⟨⟨h1, h2⟩, h3, h4⟩
              rw [h4, hd_0 hv] at h3
              exact ⟨by omega, h3⟩
            · rintro ⟨rfl, h2⟩
              rw [Nat.sub_self, hd_0 hv]
              exact ⟨⟨by omega, Nat.le_refl _⟩, h2, rfl⟩
          have lb : LB ((t.2.1 (wId i 0) 2 &&& 62) <<< ((nI (6 * (e + 1))).toInt64 &&& 63)) (fun c => ∃ y b, B (y :: b) ∧ c = 6 * (e + 1) + (y + 1)) := by
            intro c
            rw [tb_shl _ (by omega), tb_and, tb_62]
            simp only [Bool.and_eq_true, decide_eq_true_eq]
            rw [hB1]
            constructor
            · rintro ⟨⟨h1, h2⟩, h3, h4⟩
              obtain ⟨y, hy⟩ : ∃ y, c - 6 * (e + 1) = y + 1 := ⟨c - 6 * (e + 1) - 1, by omega⟩
              rw [hy, hd_1] at h3
              obtain ⟨b, hb'⟩ := h3
              exact ⟨y, b, hb', by omega⟩
            · rintro ⟨y, b, h2, rfl⟩
              have hy := (hv _ h2).2 y (by simp)
              rw [show 6 * (e + 1) + (y + 1) - 6 * (e + 1) = y + 1 by omega, hd_1]
              exact ⟨⟨by omega, by omega⟩, ⟨b, h2⟩, by omega⟩
          refine ih _ _ ⟨rfl, by omega, ((hw.or la).or lb).of (fun c => ?_)⟩
          constructor
          · rintro (((h1 | ⟨x, h2, h3⟩) | h4) | h5)
            · exact Or.inl h1
            · exact Or.inr ⟨x, by omega, h3⟩
            · exact Or.inr ⟨e, by omega, hpe, Or.inl h4⟩
            · exact Or.inr ⟨e, by omega, hpe, Or.inr h5⟩
          · rintro (h1 | ⟨x, h2, h3, h4⟩)
            · exact Or.inl (Or.inl (Or.inl h1))
            · by_cases ex : x = e
              · subst ex
                rcases h4 with h4 | h4
                · exact Or.inl (Or.inr h4)
                · exact Or.inr h4
              · exact Or.inl (Or.inl (Or.inr ⟨x, by omega, h3, h4⟩))
      · rintro rec w t ⟨rfl, h1d, hw⟩
        simp (disch := omega) only [le_ok, if_pos]
        refine wp_some ⟨rfl, hw.of (fun c => ?_)⟩
        rw [J2_cd hP hv hne]
        constructor
        · rintro (h1 | ⟨x, h2, h3⟩)
          · exact Or.inl h1
          · exact Or.inr ⟨x, by omega, h3⟩
        · rintro (h1 | ⟨x, h2, h3⟩)
          · exact Or.inl h1
          · exact Or.inr ⟨x, by omega, h3⟩
      · constructor
        · exact Or.inl
        · rintro (h1 | ⟨x, h2, _⟩)
          · exact h1
          · omega
  by_cases hn0 : u &&& 1 = 0
  · rw [if_pos hn0]
    refine main _ (l1.of (fun c => ?_))
    constructor
    · exact Or.inl
    · rintro (h1 | ⟨h1, _⟩)
      · exact h1
      · exact absurd h1 (h01.mp hn0)
  · rw [if_neg hn0]
    have hp0 : P [] := Classical.byContradiction (fun h => hn0 (h01.mpr h))
    refine main _ ((l1.or hB2).of (fun c => ?_))
    constructor
    · rintro (h1 | h1)
      · exact Or.inl h1
      · exact Or.inr ⟨hp0, h1⟩
    · rintro (h1 | ⟨_, h1⟩)
      · exact Or.inl h1
      · exact Or.inr h1
theorem fillL_c {s : PH} {q m n : Nat} {v : Int64} (hm : m < 1000) (hn : m < n) : wp (fJ7_fill_d0a16 n q m v s) (fun _ t => Fr (fun x => x = q) s t ∧ ∀ x, x < m → t.2.1 q x = v) := by
  unfold fJ7_fill_d0a16
  simp only [lt_def]
  refine wp_for2 m (by omega) (fun j t => Fr (fun x => x = q) s t ∧ ∀ x, x < j → t.2.1 q x = v) ?_ ?_ n 0 s (by omega) ⟨Fr.rf, fun x hx => absurd hx (Nat.not_lt_zero x)⟩ (by omega)
  · rintro rec j t hj ⟨hf, hb⟩ ih
    simp (disch := omega) only [le_ok, if_neg, wa_ok, lt_def, nI_add, cl_ok]
    refine ih _ ⟨hf.tr (Fr.sl rfl), fun x hx => ?_⟩
    rw [sl_q]
    by_cases e : x = j
    · simp [e]
    · simp [e, hb x (by omega)]
  · rintro rec t ⟨hf, hb⟩
    simp (disch := omega) only [le_ok, if_pos]
    exact wp_some ⟨hf, hb⟩
def W0 : WLs := fun _ => False
theorem W0.cd {c : Nat} : ¬ cd W0 c := fun ⟨_, h, _⟩ => h
theorem WSt.empty {o r : Nat → Int64} (h1 : o 1 = 0) (h2 : o 2 = 0) (h : ∀ x, x < 6 → r x = 0) : WSf W0 o r := by
  refine ⟨fun _ h => h.elim, ?_, fun x hx => ?_, ?_, ?_⟩
  · rw [h 0 (by decide)]
    exact LB.zero.of (fun c => ⟨fun h => h.elim, fun h => h.2⟩)
  · rw [h (x + 1) (by omega)]
    exact LB.zero.of (fun c => ⟨fun h => h.elim, fun ⟨_, h, _⟩ => h⟩)
  · rw [h1]
    exact LB.zero.of (fun c => ⟨fun h => h.elim, fun ⟨_, ⟨_, h, _⟩, _⟩ => h⟩)
  · rw [h2]
    exact LB.zero.of (fun c => ⟨fun h => h.elim, fun ⟨_, ⟨_, h, _⟩, _⟩ => h⟩)
theorem drop_c {s : PH} {i n : Nat} (hn : 10 ≤ n) : wp (fX10_drop n i s) (fun _ t => Fr (isWd i) s t ∧ WSt W0 i t) := by
  unfold fX10_drop
  refine wp_call (fillL_c (by omega) (by omega)) (fun _ t h => ?_)
  simp only [lt_def]
  refine wp_some ⟨Fr.tr (P := isWd i) (Fr.tr (P := isWd i) (h.1.wk (fun q e => Or.inr e)) (Fr.sl (Or.inl rfl))) (Fr.sl (Or.inl rfl)), ?_⟩
  unfold WSt
  have hne : wId i 1 ≠ wId i 0 := by unfold wId; omega
  refine WSt.empty ?_ ?_ (fun x hx => ?_)
  · rw [sl_q]
    dsimp only
    rw [if_neg (by decide), sl_q]
    dsimp only
    rw [if_pos rfl]
  · rw [sl_q]
    dsimp only
    rw [if_pos rfl]
  · rw [sl_r _ _ _ _ hne, sl_r _ _ _ _ hne]
    exact h.2 x hx
