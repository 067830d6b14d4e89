/-! ===== the class: the order; all traits ===== -/
/-- the order that the class keeps: m places, o; R: reachable; z: how many are derived from each alone -/
def ORD (R : Nat → Bool) (z : Nat → Nat) (m : Nat) (o : Nat → Nat) : Prop := (∀ i, i < m → o i < 6 ∧ R (o i) = true) ∧ ∀ i, i < m → ∀ y, y < 6 → R y = true → z y < z (o i) → ∃ j, j < i ∧ o j = y
/-- these have come by: sizes below k, and of size k those below x -/
def byP (R : Nat → Bool) (z : Nat → Nat) (k x : Nat) (y : Nat) : Bool := R y && (decide (z y < k) || (decide (z y = k) && decide (y < x)))
theorem byP_t {R : Nat → Bool} {z : Nat → Nat} {k x y : Nat} : byP R z k x y = true ↔ R y = true ∧ (z y < k ∨ (z y = k ∧ y < x)) := by
  unfold byP
  simp only [Bool.and_eq_true, Bool.or_eq_true, decide_eq_true_eq]
theorem bcn_le (b : Nat → Bool) : ∀ n, bcn b n ≤ n
  | 0 => Nat.le_refl 0
  | n + 1 => by
    have := bcn_le b n
    have h : (b n).toNat ≤ 1 := by cases b n <;> decide
    show bcn b n + (b n).toNat ≤ n + 1
    omega
theorem findOrder_c {s : PH} {R : Nat → Bool} {T : Nat → Bool} (h7 : s.1 7 7 = nI (mk R)) (h11 : RW (s.1 11) T) {n : Nat} (hn : 30 ≤ n) : wp (fX9_findOrder n s) (fun _ t => Fr (fun q => q = 7 ∨ q = 12) s t ∧ (∀ k, k ≠ 5 → t.1 7 k = s.1 7 k) ∧ ∃ m o, m ≤ 6 ∧ t.1 7 5 = nI m ∧ NA (t.1 12) m o ∧ ORD R (fun x => bcn (fun y => T (6 * x + y)) 6) m o ∧ ∀ y, y < 6 → R y = true → ∃ j, j < m ∧ o j = y) := by
  unfold fX9_findOrder
  simp only [lt_def]
  refine wp_for2 7 (by omega) (fun k t => Fr (fun q => q = 7 ∨ q = 12) s t ∧ (∀ k, k ≠ 5 → t.1 7 k = s.1 7 k) ∧ ∃ m o, m ≤ cn (byP R (fun x => bcn (fun y => T (6 * x + y)) 6) k 0) 6 ∧ t.1 7 5 = nI m ∧ NA (t.1 12) m o ∧ ORD R (fun x => bcn (fun y => T (6 * x + y)) 6) m o ∧ ∀ y, y < 6 → byP R (fun x => bcn (fun y => T (6 * x + y)) 6) k 0 y = true → ∃ j, j < m ∧ o j = y) ?_ ?_ n 0 _ (by omega) ⟨Fr.si (Or.inl rfl), ?_, 0, fun _ => 0, Nat.zero_le _, ?_, fun x hx => absurd hx (Nat.not_lt_zero x), ⟨fun i hi => absurd hi (Nat.not_lt_zero i), fun i hi => absurd hi (Nat.not_lt_zero i)⟩, ?_⟩ (by omega)
  · rintro rec k t hk ⟨hf, h7k, m, o, hm, h75, h12, hO, hall⟩ ih
    simp (disch := omega) only [lt_ok, if_neg]
    refine wp_for2 6 (by omega) (fun x t => Fr (fun q => q = 7 ∨ q = 12) s t ∧ (∀ k, k ≠ 5 → t.1 7 k = s.1 7 k) ∧ ∃ m o, m ≤ cn (byP R (fun x => bcn (fun y => T (6 * x + y)) 6) k x) 6 ∧ t.1 7 5 = nI m ∧ NA (t.1 12) m o ∧ ORD R (fun x => bcn (fun y => T (6 * x + y)) 6) m o ∧ ∀ y, y < 6 → byP R (fun x => bcn (fun y => T (6 * x + y)) 6) k x y = true → ∃ j, j < m ∧ o j = y) ?_ ?_ n 0 t (by omega) ⟨hf, h7k, m, o, hm, h75, h12, hO, hall⟩ (by omega)
    · rintro rec2 x t hx ⟨hf, h7k, m, o, hm, h75, h12, hO, hall⟩ ih2
      have e11 : t.1 11 = s.1 11 := (hf 11 (by decide)).1
      have e77 : t.1 7 7 = nI (mk R) := by rw [h7k 7 (by decide), h7]
      have hz6 := bcn_le (fun y => T (6 * x + y)) 6
      simp (disch := omega) only [le_ok, if_neg, e77, bit_c, bd_ok, jn_def, lt_def, nI_add, bI_1, ra_ok, e11]
      have skip : ¬ (R x = true ∧ bcn (fun y => T (6 * x + y)) 6 = k) → wp (rec2 (nI (x + 1)) t) (fun _ t => Fr (fun q => q = 7 ∨ q = 12) s t ∧ (∀ k, k ≠ 5 → t.1 7 k = s.1 7 k) ∧ ∃ m o, m ≤ 6 ∧ t.1 7 5 = nI m ∧ NA (t.1 12) m o ∧ ORD R (fun x => bcn (fun y => T (6 * x + y)) 6) m o ∧ ∀ y, y < 6 → R y = true → ∃ j, j < m ∧ o j = y) := by
        intro hno
        refine ih2 _ ⟨hf, h7k, m, o, Nat.le_trans hm (cn_mono 6 (fun y _ hy => ?_)), h75, h12, hO, fun y hy hb => hall y hy ?_⟩
        · rw [byP_t] at hy ⊢
          exact ⟨hy.1, by omega⟩
        · rw [byP_t] at hb ⊢
          refine ⟨hb.1, ?_⟩
          rcases hb.2 with h1 | ⟨h1, h2⟩
          · exact Or.inl h1
          · right
            refine ⟨h1, ?_⟩
            rcases Nat.lt_or_ge y x with h3 | h3
            · exact h3
            · exfalso
              apply hno
              have : y = x := by omega
              subst this
              exact ⟨hb.1, h1⟩
      by_cases hc : R x = true
      · rw [if_pos hc, h11 x hx, mk_bc, bd_ok]
        simp (disch := omega) only [eq_ok]
        by_cases hk2 : bcn (fun y => T (6 * x + y)) 6 = k
        · rw [if_pos hk2, h75]
          have hlt : m + 1 ≤ cn (byP R (fun x => bcn (fun y => T (6 * x + y)) 6) k (x + 1)) 6 := by
            refine Nat.le_trans (Nat.succ_le_succ hm) (cn_more 6 (fun y _ hy => ?_) ⟨x, hx, ?_, ?_⟩)
            · rw [byP_t] at hy ⊢
              exact ⟨hy.1, by omega⟩
            · rw [byP_t]
              exact ⟨hc, Or.inr ⟨hk2, by omega⟩⟩
            · rw [byP_t]
              rintro ⟨_, h1 | ⟨_, h1⟩⟩
              · omega
              · omega
          have h6 := cn_n (byP R (fun x => bcn (fun y => T (6 * x + y)) 6) k (x + 1)) 6
          simp (disch := omega) only [le_ok, if_neg, wa_ok, cl_ok]
          rw [si_r _ _ _ _ (show 7 ≠ 12 by decide), h75]
          simp only [nI_add]
          refine ih2 _ ⟨(hf.tr (Fr.si (Or.inr rfl))).tr (Fr.si (Or.inl rfl)), fun k' hk' => ?_, m + 1, fun i => if i = m then x else o i, hlt, ?_, fun i hi => ?_, ⟨fun i hi => ?_, fun i hi y hy hR hzy => ?_⟩, fun y hy hb => ?_⟩
          · rw [si_q]
            dsimp only
            rw [if_neg hk', si_r _ _ _ _ (show 7 ≠ 12 by decide)]
            exact h7k k' hk'
          · rw [si_q]
            dsimp only
            rw [if_pos rfl]
          · rw [si_r _ _ _ _ (show 12 ≠ 7 by decide), si_q]
            dsimp only
            by_cases e : i = m
            · rw [if_pos e, if_pos e]
            · rw [if_neg e, if_neg e]; exact h12 i (by omega)
          · dsimp only
            by_cases e : i = m
            · rw [if_pos e]; exact ⟨hx, hc⟩
            · rw [if_neg e]; exact hO.1 i (by omega)
          · dsimp only at hzy ⊢
            by_cases e : i = m
            · rw [if_pos e, hk2] at hzy
              obtain ⟨j, hj, ej⟩ := hall y hy (byP_t.mpr ⟨hR, Or.inl hzy⟩)
              exact ⟨j, by omega, by rw [if_neg (by omega)]; exact ej⟩
            · rw [if_neg e] at hzy
              obtain ⟨j, hj, ej⟩ := hO.2 i (by omega) y hy hR hzy
              exact ⟨j, hj, by rw [if_neg (by omega)]; exact ej⟩
          · by_cases e : y = x
            · exact ⟨m, by omega, by dsimp only; rw [if_pos rfl, e]⟩
            · rw [byP_t] at hb
              obtain ⟨j, hj, ej⟩ := hall y hy (byP_t.mpr ⟨hb.1, by omega⟩)
              exact ⟨j, by omega, by dsimp only; rw [if_neg (by omega)]; exact ej⟩
        · rw [if_neg hk2]
          exact skip (fun h => hk2 h.2)
      · rw [if_neg hc]
        exact skip (fun h => hc h.1)
    · rintro rec2 t ⟨hf, h7k, m, o, hm, h75, h12, hO, hall⟩
      simp (disch := omega) only [le_ok, if_pos, nI_add, lt_def]
      refine ih _ ⟨hf, h7k, m, o, Nat.le_trans hm (cn_mono 6 (fun y _ hy => ?_)), h75, h12, hO, fun y hy hb => hall y hy ?_⟩
      · rw [byP_t] at hy ⊢
        exact ⟨hy.1, by omega⟩
      · rw [byP_t] at hb ⊢
        refine ⟨hb.1, ?_⟩
        rcases hb.2 with h1 | ⟨h1, h2⟩
        · omega
        · omega
  · rintro rec t ⟨hf, h7k, m, o, hm, h75, h12, hO, hall⟩
    simp (disch := omega) only [lt_ok, if_pos]
    refine wp_some ⟨hf, h7k, m, o, Nat.le_trans hm (cn_n _ 6), h75, h12, hO, fun y hy hR => hall y hy (byP_t.mpr ⟨hR, Or.inl ?_⟩)⟩
    have := bcn_le (fun y' => T (6 * y + y')) 6
    omega
  · intro k hk
    rw [si_q]
    dsimp only
    rw [if_neg hk]
  · rw [si_q]
    dsimp only
    rw [if_pos rfl]
  · intro y _ hb
    rw [byP_t] at hb
    omega
/-- the relations of a grammar, closed -/
def clB (c : Bool) (G : Gr) : Nat → Bool := clI (tAll c G (eI G 6) G.1) 6
def zal (G : Gr) (x : Nat) : Nat := bcn (fun y => clB true G (6 * x + y)) 6
/-- what the class knows of a grammar's nonterminals -/
def CTr (G : Gr) (s : PH) : Prop := NA (s.1 8) 6 (fw G 1000000) ∧ TLS G G.1 (s.1 9) ∧ s.1 7 7 = nI (mk (rI G 6)) ∧ (∃ L, s.1 7 6 = nI (mk L) ∧ LTS G (fun _ => rI G 6) G.1 L) ∧ s.1 7 8 = nI (mk (fun x => clB false G (6 * x + x))) ∧ s.1 7 9 = nI (mk (fun x => clB true G (6 * x + x))) ∧ ∃ m o, m ≤ 6 ∧ s.1 7 5 = nI m ∧ NA (s.1 12) m o ∧ ORD (rI G 6) (zal G) m o ∧ ∀ y, y < 6 → rI G 6 y = true → ∃ j, j < m ∧ o j = y
def isT (q : Nat) : Prop := 7 ≤ q ∧ q ≤ 12
theorem gIT {g : Nat} : ∀ k, k < 6 → ¬ isT (gId g k) := fun k hk => by unfold isT gId; omega
theorem CTr.fr {G : Gr} {P : Nat → Prop} {s t : PH} (h : CTr G s) (hf : Fr P s t) (hP : ∀ q, isT q → ¬ P q) : CTr G t := by
  unfold CTr
  rw [(hf 7 (hP 7 (by unfold isT; decide))).1, (hf 8 (hP 8 (by unfold isT; decide))).1, (hf 9 (hP 9 (by unfold isT; decide))).1, (hf 12 (hP 12 (by unfold isT; decide))).1]
  exact h
theorem find_c {G : Gr} {g : Nat} {s : PH} (h : CG G g s) (w : WG G) {n : Nat} (hn : 30 ≤ n) : wp (fX9_find n g s) (fun _ t => Fr isT s t ∧ CTr G t) := by
  have hE : ∀ x, eI G 6 x = decide (fw G 1000000 x = 0) := fun x => eI_fI (by decide) 6 x
  unfold fX9_find
  refine wp_call (findFewest_c h w hn) (fun _ t1 h1 => ?_)
  have f1 : Fr isT s t1 := h1.1.wk (fun q e => by unfold is89 at e; unfold isT; omega)
  have g1 := h.fr f1 gIT
  refine wp_call (findReachable_c g1 w hn) (fun _ t2 h2 => ?_)
  have f2 : Fr isT s t2 := f1.tr (h2.1.wk (fun q e => by unfold isT; omega))
  have g2 := h.fr f2 gIT
  have e8 : NA (t2.1 8) 6 (fw G 1000000) := by rw [(h2.1 8 (by decide)).1]; exact h1.2.1
  have e9 : TLS G G.1 (t2.1 9) := by rw [(h2.1 9 (by decide)).1]; exact h1.2.2
  refine wp_call (findRelations_c g2 w hE e8 e9 hn) (fun _ t3 h3 => ?_)
  have f3 : Fr isT s t3 := f2.tr (h3.1.wk (fun q e => by unfold isRe at e; unfold isT; omega))
  refine wp_call (findLoops_c h3.2.1 hn) (fun r t4 h4 => ?_)
  obtain ⟨hf4, hR4, rfl⟩ := h4
  have f4 : Fr isT s t4 := f3.tr (hf4.wk (fun q e => by unfold isT; omega))
  simp only [lt_def]
  have h11 : RW ((si t4 7 8 (nI (mk (fun x => clI (tAll false G (eI G 6) G.1) 6 (6 * x + x))))).1 11) (tAll true G (eI G 6) G.1) := by
    rw [si_r _ _ _ _ (by decide), (hf4 11 (by decide)).1]
    exact h3.2.2
  refine wp_call (findLoops_c h11 hn) (fun r t5 h5 => ?_)
  obtain ⟨hf5, hR5, rfl⟩ := h5
  have e7 : t5.1 7 = (si t4 7 8 (nI (mk (fun x => clI (tAll false G (eI G 6) G.1) 6 (6 * x + x))))).1 7 := (hf5 7 (by decide)).1
  have e47 : t4.1 7 = t2.1 7 := ((hf4 7 (by decide)).1).trans (h3.1 7 (by unfold isRe; decide)).1
  have h77 : (si t5 7 9 (nI (mk (fun x => clI (tAll true G (eI G 6) G.1) 6 (6 * x + x))))).1 7 7 = nI (mk (rI G 6)) := by
    rw [si_q]
    dsimp only
    rw [if_neg (by decide), e7, si_q]
    dsimp only
    rw [if_neg (by decide), e47]
    exact h2.2.1
  have h11b : RW ((si t5 7 9 (nI (mk (fun x => clI (tAll true G (eI G 6) G.1) 6 (6 * x + x))))).1 11) (clI (tAll true G (eI G 6) G.1) 6) := by
    rw [si_r _ _ _ _ (by decide)]
    exact hR5
  refine wp_call (findOrder_c h77 h11b hn) (fun _ t6 h6 => ?_)
  obtain ⟨hf6, hk6, m, o, hm, h75, h12, hO, hall⟩ := h6
  have f6 : Fr isT s t6 := (((f4.tr (Fr.si (by unfold isT; decide))).tr (hf5.wk (fun q e => by unfold isT; omega))).tr (Fr.si (by unfold isT; decide))).tr (hf6.wk (fun q e => by unfold isT; omega))
  have k7 : ∀ k, k ≠ 5 → k ≠ 9 → k ≠ 8 → t6.1 7 k = t2.1 7 k := by
    intro k h5 h9 h8
    rw [hk6 k h5, si_q]
    dsimp only
    rw [if_neg h9, e7, si_q]
    dsimp only
    rw [if_neg h8, e47]
  have k89 : ∀ q, q = 8 ∨ q = 9 → t6.1 q = t2.1 q := by
    intro q hq
    rw [(hf6 q (by omega)).1, si_r _ _ _ _ (by omega), (hf5 q (by omega)).1, si_r _ _ _ _ (by omega), (hf4 q (by omega)).1, (h3.1 q (by unfold isRe; omega)).1]
  refine wp_some ⟨f6, ?_, ?_, ?_, ?_, ?_, ?_, m, o, hm, h75, h12, hO, hall⟩
  · rw [k89 8 (Or.inl rfl)]; exact e8
  · rw [k89 9 (Or.inr rfl)]; exact e9
  · rw [k7 7 (by decide) (by decide) (by decide)]; exact h2.2.1
  · rw [k7 6 (by decide) (by decide) (by decide)]; exact h2.2.2
  · rw [hk6 8 (by decide), si_q]
    dsimp only
    rw [if_neg (by decide), e7, si_q]
    dsimp only
    rw [if_pos rfl]
    rfl
  · rw [hk6 9 (by decide), si_q]
    dsimp only
    rw [if_pos rfl]
    rfl
