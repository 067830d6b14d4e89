/-! ===== loops that count down ===== -/
theorem dn_s {j : Nat} : nI (j + 1) - nI 1 = nI j := by rw [nI_subN (by omega)]; rfl
theorem dn_0 : nI 0 - nI 1 = -1 := by decide +kernel
theorem dn_m (j : Nat) : nI j + (-1) = nI j - nI 1 := by
  rw [show (-1 : Int32) = - nI 1 by decide +kernel, Int32.sub_eq_add_neg]
theorem dn_neg : (-1 : Int32) < 0 := by decide +kernel
theorem wp_dn2 {α : Type} {body : (Int32 → PH → Option (α × PH)) → Int32 → PH → Option (α × PH)} {Φ : α → PH → Prop} (I : Nat → PH → Prop)
    (step : ∀ (rec : Int32 → PH → Option (α × PH)) (j : Nat) (s : PH), I (j + 1) s → (∀ s', I j s' → wp (rec (nI j - nI 1) s') Φ) → wp (body rec (nI j) s) Φ)
    (exit : ∀ (rec : Int32 → PH → Option (α × PH)) (s : PH), I 0 s → wp (body rec (-1) s) Φ) :
    ∀ (n a : Nat) (s : PH), I a s → a < n → wp (loo2 body n (nI a - nI 1) s) Φ := by
  intro n
  induction n with
  | zero => intro a s _ h; exact absurd h (Nat.not_lt_zero _)
  | succ n ih =>
    intro a s hI hn
    cases a with
    | zero => rw [dn_0]; exact exit _ s hI
    | succ j => rw [dn_s]; exact step _ j s hI (fun s' hs => ih j s' hs (by omega))
theorem wp_dn3 {α A : Type} {body : (A → Int32 → PH → Option (α × PH)) → A → Int32 → PH → Option (α × PH)} {Φ : α → PH → Prop} (I : Nat → A → PH → Prop)
    (step : ∀ (rec : A → Int32 → PH → Option (α × PH)) (j : Nat) (x : A) (s : PH), I (j + 1) x s → (∀ x' s', I j x' s' → wp (rec x' (nI j - nI 1) s') Φ) → wp (body rec x (nI j) s) Φ)
    (exit : ∀ (rec : A → Int32 → PH → Option (α × PH)) (x : A) (s : PH), I 0 x s → wp (body rec x (-1) s) Φ) :
    ∀ (n a : Nat) (x : A) (s : PH), I a x s → a < n → wp (loo3 body n x (nI a - nI 1) s) Φ := by
  intro n
  induction n with
  | zero => intro a x s _ h; exact absurd h (Nat.not_lt_zero _)
  | succ n ih =>
    intro a x s hI hn
    cases a with
    | zero => rw [dn_0]; exact exit _ x s hI
    | succ j => rw [dn_s]; exact step _ j x s hI (fun x' s' hs => ih j x' s' hs (by omega))
theorem wp_dn4 {α A B : Type} {body : (A → B → Int32 → PH → Option (α × PH)) → A → B → Int32 → PH → Option (α × PH)} {Φ : α → PH → Prop} (I : Nat → A → B → PH → Prop)
    (step : ∀ (rec : A → B → Int32 → PH → Option (α × PH)) (j : Nat) (x : A) (y : B) (s : PH), I (j + 1) x y s → (∀ x' y' s', I j x' y' s' → wp (rec x' y' (nI j - nI 1) s') Φ) → wp (body rec x y (nI j) s) Φ)
    (exit : ∀ (rec : A → B → Int32 → PH → Option (α × PH)) (x : A) (y : B) (s : PH), I 0 x y s → wp (body rec x y (-1) s) Φ) :
    ∀ (n a : Nat) (x : A) (y : B) (s : PH), I a x y s → a < n → wp (loo4 body n x y (nI a - nI 1) s) Φ := by
  intro n
  induction n with
  | zero => intro a x y s _ h; exact absurd h (Nat.not_lt_zero _)
  | succ n ih =>
    intro a x y s hI hn
    cases a with
    | zero => rw [dn_0]; exact exit _ x y s hI
    | succ j => rw [dn_s]; exact step _ j x y s hI (fun x' y' s' hs => ih j x' y' s' hs (by omega))
/-! ===== the class: fewest letters, tails ===== -/
def tl (f q : Nat → Nat) : Nat → Nat → Nat
  | 0, _ => 0
  | n + 1, i => min 1000000 (tl f q n (i + 1) + cs f (q i))
def sR (f q : Nat → Nat) : Nat → Nat → Nat
  | 0, _ => 0
  | n + 1, i => sR f q n (i + 1) + cs f (q i)
theorem tl_sR (f q : Nat → Nat) : ∀ n i, tl f q n i = min 1000000 (sR f q n i)
  | 0, _ => rfl
  | n + 1, i => by
    show min 1000000 (tl f q n (i + 1) + cs f (q i)) = min 1000000 (sR f q n (i + 1) + cs f (q i))
    rw [tl_sR f q n (i + 1)]
    omega
theorem sR_snoc (f q : Nat → Nat) : ∀ n i, sR f q (n + 1) i = sR f q n i + cs f (q (i + n))
  | 0, i => by simp [sR]
  | n + 1, i => by
    show sR f q (n + 1) (i + 1) + cs f (q i) = (sR f q n (i + 1) + cs f (q i)) + cs f (q (i + (n + 1)))
    rw [sR_snoc f q n (i + 1), show i + 1 + n = i + (n + 1) by omega]
    omega
theorem sR_sm (f q : Nat → Nat) : ∀ n, sR f q n 0 = sm f q n
  | 0 => rfl
  | n + 1 => by
    rw [sR_snoc, sR_sm f q n, Nat.zero_add]
    rfl
theorem tl_le (f q : Nat → Nat) (n i : Nat) : tl f q n i ≤ 1000000 := by rw [tl_sR]; omega
theorem aE_sR {E : Nat → Bool} {f : Nat → Nat} (h : ∀ x, E x = decide (f x = 0)) (q : Nat → Nat) (a : Nat) : ∀ n, aE E q a n = decide (sR f q n a = 0)
  | 0 => rfl
  | n + 1 => by
    rw [sR_snoc]
    show (aE E q a n && eS E (q (a + n))) = _
    rw [aE_sR h q a n]
    unfold eS cs
    rw [h]
    by_cases h1 : sR f q n a = 0
    · by_cases h2 : q (a + n) < 10
      · simp [h1, h2]; omega
      · simp [h1, h2, Nat.not_lt.mp h2]
    · simp [h1]
theorem gI9 {g q : Nat} (hq : q < 30) : ∀ k, k < 6 → ¬ gId g k = q := fun k hk => by unfold gId; omega
theorem findTails_c {G : Gr} {g : Nat} {s : PH} {f : Nat → Nat} (h : CG G g s) (w : WG G) (h8 : NA (s.1 8) 6 f) (hf : ∀ x, f x ≤ 1000000) {p n : Nat} (hp : p < G.1) (hn : 10 ≤ n) : wp (fX9_findTails n g (nI p) s) (fun _ t => Fr (fun q => q = 9) s t ∧ (∀ i, i ≤ G.2.2.1 p → t.1 9 (6 * p + i) = nI (tl f (G.2.2.2 p) (G.2.2.1 p - i) i)) ∧ ∀ k, (k < 6 * p ∨ 6 * p + 6 ≤ k) → t.1 9 k = s.1 9 k) := by
  have h16 := w.1.2
  have h5 := (w.2.1 p hp).2
  have e0 := length_c h w hp
  unfold fX9_findTails
  have hg1 : CG G g (si s 9 (6 * p + G.2.2.1 p) (nI 0)) := h.fr (P := fun q => q = 9) (Fr.si rfl) (gI9 (by decide))
  simp (disch := omega) only [lt_def, e0, bd_ok, nI_mulN, nI_add, wa_ok, cl_ok, Nat.mul_comm p 6, length_c hg1 w hp]
  refine wp_dn3 (fun j x t => j ≤ G.2.2.1 p ∧ x = nI (tl f (G.2.2.2 p) (G.2.2.1 p - j) j) ∧ Fr (fun q => q = 9) s t ∧ (∀ i, j ≤ i → i ≤ G.2.2.1 p → t.1 9 (6 * p + i) = nI (tl f (G.2.2.2 p) (G.2.2.1 p - i) i)) ∧ ∀ k, (k < 6 * p ∨ 6 * p + 6 ≤ k) → t.1 9 k = s.1 9 k) ?_ ?_ n (G.2.2.1 p) _ _ ⟨Nat.le_refl _, by rw [Nat.sub_self]; rfl, Fr.si rfl, fun i h1 h2 => ?_, fun k hk => ?_⟩ (by omega)
  · rintro rec j x t ⟨hj, rfl, hfr, ht, ho⟩ ih
    have hgt := h.fr hfr (gI9 (by decide))
    have hy := sy16 w hp (i := j) (by omega)
    have e8 : t.1 8 = s.1 8 := (hfr 8 (by decide)).1
    have et : tl f (G.2.2.2 p) (G.2.2.1 p - j) j = min 1000000 (tl f (G.2.2.2 p) (G.2.2.1 p - (j + 1)) (j + 1) + cs f (G.2.2.2 p j)) := by
      rw [show G.2.2.1 p - j = (G.2.2.1 p - (j + 1)) + 1 by omega]
      rfl
    have hl := tl_le f (G.2.2.2 p) (G.2.2.1 p - (j + 1)) (j + 1)
    rw [if_neg (by rw [lt0_ok (by omega)]; exact fun z => z)]
    simp (disch := omega) only [symbolAt_c hgt w hp (show j < G.2.2.1 p by omega), bd_ok, isLetter_c, bI_0, decide_eq_false_iff_not, jn_def, lt_def, e8, dn_m, nI_mulN, Nat.mul_comm p 6]
    have fin : ∀ c : Nat, c ≤ 1000000 → c = cs f (G.2.2.2 p j) → wp (wa 96 (nI (6 * p) + nI j) (rec (if nI (tl f (G.2.2.2 p) (G.2.2.1 p - (j + 1)) (j + 1)) + nI c < nI 1000000 then nI (tl f (G.2.2.2 p) (G.2.2.1 p - (j + 1)) (j + 1)) + nI c else nI 1000000) (nI j - nI 1) (si t 9 (nI (6 * p) + nI j).toNatClampNeg (if nI (tl f (G.2.2.2 p) (G.2.2.1 p - (j + 1)) (j + 1)) + nI c < nI 1000000 then nI (tl f (G.2.2.2 p) (G.2.2.1 p - (j + 1)) (j + 1)) + nI c else nI 1000000)))) (fun _ t => Fr (fun q => q = 9) s t ∧ (∀ i, i ≤ G.2.2.1 p → t.1 9 (6 * p + i) = nI (tl f (G.2.2.2 p) (G.2.2.1 p - i) i)) ∧ ∀ k, (k < 6 * p ∨ 6 * p + 6 ≤ k) → t.1 9 k = s.1 9 k) := by
      intro c hc ec
      have e1 : (if nI (tl f (G.2.2.2 p) (G.2.2.1 p - (j + 1)) (j + 1)) + nI c < nI 1000000 then nI (tl f (G.2.2.2 p) (G.2.2.1 p - (j + 1)) (j + 1)) + nI c else nI 1000000) = nI (tl f (G.2.2.2 p) (G.2.2.1 p - j) j) := by
        simp (disch := omega) only [nI_add, lt_ok]
        rw [et, ← ec]
        split
        · congr 1; omega
        · congr 1; omega
      rw [e1]
      simp (disch := omega) only [nI_add, wa_ok, cl_ok]
      refine ih _ _ ⟨by omega, rfl, hfr.tr (Fr.si rfl), fun i h1 h2 => ?_, fun k hk => ?_⟩
      · rw [si_q]
        dsimp only
        by_cases e : i = j
        · rw [if_pos (by omega), e]
        · rw [if_neg (by omega)]; exact ht i (by omega) h2
      · rw [si_q]
        dsimp only
        rw [if_neg (by omega)]; exact ho k hk
    by_cases hc : G.2.2.2 p j < 10
    · rw [if_neg (by omega)]
      exact fin 1 (by omega) (by unfold cs; rw [if_pos hc])
    · rw [if_pos hc]
      simp (disch := omega) only [nI_subN, ra_ok]
      rw [h8 _ (by omega)]
      exact fin _ (hf _) (by unfold cs; rw [if_neg hc])
  · rintro rec x t ⟨hj, rfl, hfr, ht, ho⟩
    rw [if_pos dn_neg]
    exact wp_some ⟨hfr, fun i hi => ht i (Nat.zero_le i) hi, ho⟩
  · rw [si_q]
    dsimp only
    have e : i = G.2.2.1 p := by omega
    rw [if_pos (by omega), e, Nat.sub_self]
    rfl
  · rw [si_q]
    dsimp only
    rw [if_neg (by omega)]
theorem tail_c {s : PH} {p i : Nat} (hp : p < 16) (hi : i < 6) : fX9_tail (nI p) (nI i) s = some (s.1 9 (6 * p + i), s) := by
  unfold fX9_tail
  simp (disch := omega) only [nI_mulN, nI_add, ra_ok, Nat.mul_comm p 6]
/-- the class's tails of the productions below m -/
def TLS (G : Gr) (m : Nat) (f : Nat → Int32) : Prop := ∀ p, p < m → ∀ i, i ≤ G.2.2.1 p → f (6 * p + i) = nI (tl (fw G 1000000) (G.2.2.2 p) (G.2.2.1 p - i) i)
def is89 (q : Nat) : Prop := q = 8 ∨ q = 9
theorem gI89 {g : Nat} : ∀ k, k < 6 → ¬ is89 (gId g k) := fun k hk => by unfold is89 gId; omega
theorem findFewest_c {G : Gr} {g : Nat} {s : PH} (h : CG G g s) (w : WG G) {n : Nat} (hn : 30 ≤ n) : wp (fX9_findFewest n g s) (fun _ t => Fr is89 s t ∧ NA (t.1 8) 6 (fw G 1000000) ∧ TLS G G.1 (t.1 9)) := by
  have h16 := w.1.2
  unfold fX9_findFewest
  refine wp_call (fill_c (by omega) (by omega)) (fun _ t h1 => ?_)
  simp only [lt_def]
  have e7 : fI G 1000000 7 = fw G 1000000 := fw_st w 1000000 G.1 (Nat.le_refl _)
  refine wp_for2 7 (by omega) (fun r t => Fr is89 s t ∧ NA (t.1 8) 6 (fI G 1000000 r) ∧ (r = 7 → TLS G G.1 (t.1 9))) ?_ ?_ n 0 t (by omega) ⟨h1.1.wk (fun q e => Or.inl e), h1.2, fun h => by omega⟩ (by omega)
  · rintro rec r t hr ⟨hf, hb, _⟩ ih
    simp (disch := omega) only [lt_ok, if_neg]
    refine wp_for2 G.1 (by omega) (fun p t => Fr is89 s t ∧ NA (t.1 8) 6 (fR G (fI G 1000000 r) p) ∧ (r = 6 → TLS G p (t.1 9))) ?_ ?_ n 0 t (by omega) ⟨hf, hb, fun _ p hp => absurd hp (Nat.not_lt_zero p)⟩ (by omega)
    · rintro rec3 p t hp ⟨hf, hb, hT⟩ ih3
      have hgt := h.fr hf gI89
      have h6 := (w.2.1 p hp).1
      have h5 := (w.2.1 p hp).2
      have hle : ∀ x, fR G (fI G 1000000 r) p x ≤ 1000000 := fun x => Nat.le_trans (fR_le G _ p x) (fI_le G _ r x)
      simp (disch := omega) only [count_c hgt, bd_ok, le_ok, if_neg]
      refine wp_call (findTails_c hgt w hb hle hp (by omega)) (fun _ t2 h2 => ?_)
      have hf2 : Fr is89 s t2 := hf.tr (h2.1.wk (fun q e => Or.inr e))
      have hgt2 := h.fr hf2 gI89
      have e8 : t2.1 8 = t.1 8 := (h2.1 8 (by decide)).1
      have hx := hle (G.2.1 p)
      have hl := tl_le (fR G (fI G 1000000 r) p) (G.2.2.2 p) (G.2.2.1 p) 0
      have ht0 := h2.2.1 0 (Nat.zero_le _)
      simp only [Nat.sub_zero] at ht0
      simp (disch := omega) only [left_c hgt2 w hp, bd_ok, ra_ok, tail_c, e8, wa_ok, cl_ok, nI_add]
      rw [hb _ h6, ht0]
      simp (disch := omega) only [lt_ok]
      have es : tl (fR G (fI G 1000000 r) p) (G.2.2.2 p) (G.2.2.1 p) 0 = min 1000000 (sm (fR G (fI G 1000000 r) p) (G.2.2.2 p) (G.2.2.1 p)) := by rw [tl_sR, sR_sm]
      have e1 : (if tl (fR G (fI G 1000000 r) p) (G.2.2.2 p) (G.2.2.1 p) 0 < fR G (fI G 1000000 r) p (G.2.1 p) then nI (tl (fR G (fI G 1000000 r) p) (G.2.2.2 p) (G.2.2.1 p) 0) else nI (fR G (fI G 1000000 r) p (G.2.1 p))) = nI (min (fR G (fI G 1000000 r) p (G.2.1 p)) (sm (fR G (fI G 1000000 r) p) (G.2.2.2 p) (G.2.2.1 p))) := by
        split
        · congr 1; omega
        · congr 1; omega
      rw [e1]
      refine ih3 _ ⟨hf2.tr (Fr.si (Or.inl rfl)), fun x hx => ?_, fun e6 p' hp' i hi => ?_⟩
      · rw [si_q]
        show (if x = G.2.1 p then _ else t2.1 8 x) = nI (fStep G (fR G (fI G 1000000 r) p) p x)
        unfold fStep
        by_cases e : x = G.2.1 p
        · rw [if_pos e, if_pos e, e]
        · rw [if_neg e, if_neg e, e8]; exact hb x hx
      · rw [si_r _ _ _ _ (by decide)]
        by_cases e : p' = p
        · subst e
          subst e6
          have e9 : fR G (fI G 1000000 6) p' = fw G 1000000 := fw_st w 1000000 p' (by omega)
          have h3 := h2.2.1 i hi
          rw [e9] at h3
          exact h3
        · have h5' := (w.2.1 p' (by omega)).2
          rw [h2.2.2 _ (by omega)]
          exact hT e6 p' (by omega) i hi
    · rintro rec3 t ⟨hf, hb, hT⟩
      have hgt := h.fr hf gI89
      simp (disch := omega) only [count_c hgt, bd_ok, le_ok, if_pos, nI_add, lt_def]
      exact ih _ ⟨hf, hb, fun e => hT (by omega)⟩
  · rintro rec t ⟨hf, hb, hT⟩
    simp (disch := omega) only [lt_ok, if_pos]
    rw [e7] at hb
    exact wp_some ⟨hf, hb, hT rfl⟩
