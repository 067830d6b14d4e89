/-! ===== the class: reachable nonterminals, their letters ===== -/
theorem rStep_mono {G : Gr} {R R' : Nat → Bool} (h : ∀ x, R x = true → R' x = true) (p x : Nat) (hx : rStep G R p x = true) : rStep G R' p x = true := by
  unfold rStep at hx ⊢
  simp only [Bool.or_eq_true, Bool.and_eq_true] at hx ⊢
  rcases hx with h1 | ⟨h1, h2⟩
  · exact Or.inl (h x h1)
  · exact Or.inr ⟨h _ h1, h2⟩
theorem rR_mono {G : Gr} {R R' : Nat → Bool} (h : ∀ x, R x = true → R' x = true) : ∀ n x, rR G R n x = true → rR G R' n x = true
  | 0, x, hx => h x hx
  | n + 1, x, hx => rStep_mono (rR_mono h n) n x hx
theorem rR_ge {G : Gr} {R : Nat → Bool} : ∀ n x, R x = true → rR G R n x = true
  | 0, _, hx => hx
  | n + 1, x, hx => by
    show rStep G (rR G R n) n x = true
    unfold rStep
    rw [rR_ge n x hx, Bool.true_or]
theorem rR_up {G : Gr} {R : Nat → Bool} {m : Nat} : ∀ n x, m ≤ n → rR G R m x = true → rR G R n x = true
  | 0, x, h, hx => by
    have : m = 0 := by omega
    subst this
    exact hx
  | n + 1, x, h, hx => by
    by_cases e : m = n + 1
    · subst e; exact hx
    · show rStep G (rR G R n) n x = true
      unfold rStep
      rw [rR_up n x (by omega) hx, Bool.true_or]
theorem hN_t {f : Nat → Nat} {y : Nat} : ∀ n, hN f y n = true ↔ ∃ i, i < n ∧ f i = y
  | 0 => by simp [hN]
  | n + 1 => by
    show (hN f y n || decide (f n = y)) = true ↔ _
    simp only [Bool.or_eq_true, decide_eq_true_eq]
    rw [hN_t n]
    constructor
    · rintro (⟨i, h1, h2⟩ | h)
      · exact ⟨i, by omega, h2⟩
      · exact ⟨n, by omega, h⟩
    · rintro ⟨i, h1, h2⟩
      by_cases e : i = n
      · subst e; exact Or.inr h2
      · exact Or.inl ⟨i, by omega, h2⟩
theorem rI_up (G : Gr) (r x : Nat) (h : rI G r x = true) : rI G (r + 1) x = true := rR_ge G.1 x h
theorem rI_lt {G : Gr} (w : WG G) : ∀ r x, rI G r x = true → x < 6
  | 0, x, h => by
    have : x = G.2.1 0 := by simpa [rI] using h
    rw [this]; exact (w.2.1 0 w.1.1).1
  | r + 1, x, h => by
    have key : ∀ n, n ≤ G.1 → ∀ x, rR G (rI G r) n x = true → x < 6 := by
      intro n
      induction n with
      | zero => intro _ x hx; exact rI_lt w r x hx
      | succ n ih =>
        intro hn x hx
        have hx' : (rR G (rI G r) n x || (rR G (rI G r) n (G.2.1 n) && hN (G.2.2.2 n) (10 + x) (G.2.2.1 n))) = true := hx
        simp only [Bool.or_eq_true, Bool.and_eq_true] at hx'
        rcases hx' with h1 | ⟨_, h2⟩
        · exact ih (by omega) x h1
        · obtain ⟨i, hi, e⟩ := (hN_t _).mp h2
          have := sy16 w (show n < G.1 by omega) hi
          omega
    exact key G.1 (Nat.le_refl _) x h
theorem rI_cnt {G : Gr} (w : WG G) : ∀ r, r + 1 ≤ cn (rI G r) 6 ∨ ∀ x, rI G (r + 1) x = true → rI G r x = true
  | 0 => by
    left
    exact Nat.le_trans (Nat.succ_le_succ (Nat.zero_le _)) (cn_more (P := fun _ => false) 6 (fun _ _ h => by cases h) ⟨G.2.1 0, (w.2.1 0 w.1.1).1, by simp [rI], by simp⟩)
  | r + 1 => by
    rcases rI_cnt w r with h | h
    · rcases Classical.em (∀ x, rI G (r + 1) x = true → rI G r x = true) with h1 | h1
      · right
        intro x hx
        exact rR_mono h1 G.1 x hx
      · left
        have h2 : ∃ x, rI G (r + 1) x = true ∧ ¬ rI G r x = true := Classical.byContradiction (fun hn => h1 (fun x hx => Classical.byContradiction (fun hc => hn ⟨x, hx, hc⟩)))
        obtain ⟨x, hx, hc⟩ := h2
        have := cn_more (P := rI G r) (Q := rI G (r + 1)) 6 (fun k _ hk => rI_up G r k hk) ⟨x, rI_lt w _ x hx, hx, hc⟩
        omega
    · right
      intro x hx
      exact rR_mono h G.1 x hx
theorem cn_all {P : Nat → Bool} : ∀ n, n ≤ cn P n → ∀ x, x < n → P x = true
  | 0, _, x, hx => absurd hx (Nat.not_lt_zero x)
  | n + 1, h, x, hx => by
    have h1 := cn_n P n
    unfold cn at h
    by_cases e : P n = true
    · rw [if_pos e] at h
      by_cases e2 : x = n
      · rw [e2]; exact e
      · exact cn_all n (by omega) x (by omega)
    · rw [if_neg e] at h
      omega
theorem rI_5 {G : Gr} (w : WG G) {x : Nat} (h : rI G 6 x = true) : rI G 5 x = true := by
  rcases rI_cnt w 5 with h1 | h1
  · exact cn_all 6 (by omega) x (rI_lt w 6 x h)
  · exact h1 x h
/-- what is reached is closed -/
theorem rI_cl {G : Gr} (w : WG G) {p i : Nat} (hp : p < G.1) (hi : i < G.2.2.1 p) (hr : rI G 6 (G.2.1 p) = true) (hy : 10 ≤ G.2.2.2 p i) : rI G 6 (G.2.2.2 p i - 10) = true := by
  have h1 : rR G (rI G 5) (p + 1) (G.2.2.2 p i - 10) = true := by
    show rStep G (rR G (rI G 5) p) p _ = true
    unfold rStep
    rw [rR_ge p _ (rI_5 w hr), (hN_t _).mpr ⟨i, hi, by omega⟩]
    simp
  exact rR_up G.1 _ hp h1
/-- letters that reachable productions have, those below m -/
def LTS (G : Gr) (R : Nat → Nat → Bool) (m : Nat) (L : Nat → Bool) : Prop := ∀ p, p < m → R p (G.2.1 p) = true → ∀ i, i < G.2.2.1 p → G.2.2.2 p i < 10 → L (G.2.2.2 p i) = true
theorem gI7 {g q : Nat} (hq : q < 30) : ∀ k, k < 6 → ¬ gId g k = q := fun k hk => by unfold gId; omega
theorem reachRight_c {G : Gr} {g : Nat} {s : PH} {R L : Nat → Bool} (h : CG G g s) (w : WG G) (h7 : s.1 7 7 = nI (mk R)) (h6 : s.1 7 6 = nI (mk L)) {p n : Nat} (hp : p < G.1) (hn : 10 ≤ n) : wp (fX9_reachRight n g (nI p) s) (fun _ t => Fr (fun q => q = 7) s t ∧ t.1 7 7 = nI (mk (fun x => R x || hN (G.2.2.2 p) (10 + x) (G.2.2.1 p))) ∧ ∃ L', t.1 7 6 = nI (mk L') ∧ (∀ c, L c = true → L' c = true) ∧ ∀ i, i < G.2.2.1 p → G.2.2.2 p i < 10 → L' (G.2.2.2 p i) = true) := by
  have h5 := (w.2.1 p hp).2
  unfold fX9_reachRight
  simp only [lt_def]
  refine wp_for2 (G.2.2.1 p) (by omega) (fun j t => Fr (fun q => q = 7) s t ∧ t.1 7 7 = nI (mk (fun x => R x || hN (G.2.2.2 p) (10 + x) j)) ∧ ∃ L', t.1 7 6 = nI (mk L') ∧ (∀ c, L c = true → L' c = true) ∧ ∀ i, i < j → G.2.2.2 p i < 10 → L' (G.2.2.2 p i) = true) ?_ ?_ n 0 s (by omega) ⟨Fr.rf, ?_, L, h6, fun _ h => h, fun i hi => absurd hi (Nat.not_lt_zero i)⟩ (by omega)
  · rintro rec j t hj ⟨hf, h77, L', h76, hL1, hL2⟩ ih
    have hgt := h.fr hf (gI7 (by decide))
    have hy := sy16 w hp hj
    simp (disch := omega) only [length_c hgt w hp, bd_ok, le_ok, if_neg, symbolAt_c hgt w hp hj, isLetter_c, bI_0, decide_eq_false_iff_not, jn_def, lt_def, nI_add]
    by_cases hc : G.2.2.2 p j < 10
    · have hy5 := sy5 w hp hj hc
      rw [if_neg (by omega), h76, mk_set L' (by omega)]
      refine ih _ ⟨hf.tr (Fr.si rfl), ?_, fun i => L' i || decide (i = G.2.2.2 p j), ?_, fun c hc' => ?_, fun i hi hci => ?_⟩
      · rw [si_q]
        dsimp only
        rw [if_neg (by decide), h77]
        congr 1
        apply mk_congr
        intro x _
        show _ = (R x || (hN (G.2.2.2 p) (10 + x) j || decide (G.2.2.2 p j = 10 + x)))
        rw [decide_eq_false (by omega), Bool.or_false]
      · rw [si_q]
        dsimp only
        rw [if_pos rfl]
      · simp [hL1 c hc']
      · by_cases e : i = j
        · subst e; simp
        · simp [hL2 i (by omega) hci]
    · rw [if_pos hc]
      simp (disch := omega) only [nI_subN]
      rw [h77, mk_set _ (by omega)]
      refine ih _ ⟨hf.tr (Fr.si rfl), ?_, L', ?_, hL1, fun i hi hci => ?_⟩
      · rw [si_q]
        dsimp only
        rw [if_pos rfl]
        congr 1
        apply mk_congr
        intro x _
        show _ = (R x || (hN (G.2.2.2 p) (10 + x) j || decide (G.2.2.2 p j = 10 + x)))
        rw [Bool.or_assoc]
        congr 2
        rw [decide_eq_decide]
        omega
      · rw [si_q]
        dsimp only
        rw [if_neg (by decide)]
        exact h76
      · by_cases e : i = j
        · subst e; omega
        · exact hL2 i (by omega) hci
  · rintro rec t ⟨hf, h77, hL⟩
    have hgt := h.fr hf (gI7 (by decide))
    simp (disch := omega) only [length_c hgt w hp, bd_ok, le_ok, if_pos]
    exact wp_some ⟨hf, h77, hL⟩
  · rw [h7]
    congr 1
    apply mk_congr
    intro x _
    simp [hN]
theorem findReachable_c {G : Gr} {g : Nat} {s : PH} (h : CG G g s) (w : WG G) {n : Nat} (hn : 30 ≤ n) : wp (fX9_findReachable n g s) (fun _ t => Fr (fun q => q = 7) s t ∧ t.1 7 7 = nI (mk (rI G 6)) ∧ ∃ L, t.1 7 6 = nI (mk L) ∧ LTS G (fun _ => rI G 6) G.1 L) := by
  have h16 := w.1.2
  unfold fX9_findReachable
  have h06 := (w.2.1 0 w.1.1).1
  simp only [start_c h w, bd_ok, lt_def]
  rw [mk_sh h06]
  have f1 : Fr (fun q => q = 7) s (si (si s 7 7 (nI (mk fun i => decide (i = G.2.1 0)))) 7 6 (nI 0)) := Fr.tr (P := fun q => q = 7) (Fr.si rfl) (Fr.si rfl)
  refine wp_for2 6 (by omega) (fun r t => Fr (fun q => q = 7) s t ∧ t.1 7 7 = nI (mk (rI G r)) ∧ ∃ L, t.1 7 6 = nI (mk L) ∧ (r = 6 → LTS G (fun p => rR G (rI G 5) p) G.1 L)) ?_ ?_ n 0 _ (by omega) ⟨f1, ?_, fun _ => false, ?_, fun h => by omega⟩ (by omega)
  · rintro rec r t hr ⟨hf, h77, L, h76, _⟩ ih
    simp (disch := omega) only [le_ok, if_neg]
    refine wp_for2 G.1 (by omega) (fun p t => Fr (fun q => q = 7) s t ∧ t.1 7 7 = nI (mk (rR G (rI G r) p)) ∧ ∃ L, t.1 7 6 = nI (mk L) ∧ LTS G (fun p => rR G (rI G r) p) p L) ?_ ?_ n 0 t (by omega) ⟨hf, h77, L, h76, fun p hp => absurd hp (Nat.not_lt_zero p)⟩ (by omega)
    · rintro rec3 p t hp ⟨hf, h77, L, h76, hL⟩ ih3
      have hgt := h.fr hf (gI7 (by decide))
      have h6 := (w.2.1 p hp).1
      simp (disch := omega) only [count_c hgt, bd_ok, le_ok, if_neg, left_c hgt w hp, h77, bit_c, jn_def, lt_def, nI_add, bI_1]
      by_cases hc : rR G (rI G r) p (G.2.1 p) = true
      · rw [if_pos hc]
        refine wp_call (reachRight_c hgt w h77 h76 hp (by omega)) (fun _ t2 h2 => ?_)
        obtain ⟨hf2, h772, L', h762, hL1, hL2⟩ := h2
        refine ih3 _ ⟨hf.tr hf2, ?_, L', h762, fun p' hp' hr' i hi hy => ?_⟩
        · rw [h772]
          congr 1
          apply mk_congr
          intro x _
          show _ = rStep G (rR G (rI G r) p) p x
          unfold rStep
          rw [hc, Bool.true_and]
        · by_cases e : p' = p
          · subst e; exact hL2 i hi hy
          · exact hL1 _ (hL p' (by omega) hr' i hi hy)
      · rw [if_neg hc]
        have hc' : rR G (rI G r) p (G.2.1 p) = false := by simpa using hc
        refine ih3 _ ⟨hf, ?_, L, h76, fun p' hp' hr' i hi hy => ?_⟩
        · rw [h77]
          congr 1
          apply mk_congr
          intro x _
          show _ = rStep G (rR G (rI G r) p) p x
          unfold rStep
          rw [hc', Bool.false_and, Bool.or_false]
        · by_cases e : p' = p
          · subst e; exact absurd hr' hc
          · exact hL p' (by omega) hr' i hi hy
    · rintro rec3 t ⟨hf, h77, L, h76, hL⟩
      have hgt := h.fr hf (gI7 (by decide))
      simp (disch := omega) only [count_c hgt, bd_ok, le_ok, if_pos, nI_add, lt_def]
      refine ih _ ⟨hf, h77, L, h76, fun e => ?_⟩
      have : r = 5 := by omega
      subst this
      exact hL
  · rintro rec t ⟨hf, h77, L, h76, hL⟩
    simp (disch := omega) only [le_ok, if_pos]
    refine wp_some ⟨hf, h77, L, h76, fun p hp hr i hi hy => ?_⟩
    exact hL rfl p hp (rR_ge p _ (rI_5 w hr)) i hi hy
  · rw [si_q]
    dsimp only
    rw [if_neg (by decide), si_q]
    dsimp only
    rw [if_pos rfl]
    rfl
  · rw [si_q]
    dsimp only
    rw [if_pos rfl]
    exact mk_no.symm
