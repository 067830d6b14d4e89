/-! ===== the reference: the fewest letters ===== -/
theorem lN_toIntN {n : Nat} (h : n < 9223372036854775808) : (lN n).toInt = (n : Int) := lg_ofNat_toInt (by omega)
theorem lle_ok {a b : Nat} (ha : a < 9223372036854775808) (hb : b < 9223372036854775808) : (lN a ≤ lN b) = (a ≤ b) := by
  apply propext
  rw [Int64.le_iff_toInt_le, lN_toIntN ha, lN_toIntN hb]
  omega
theorem llt_ok {a b : Nat} (ha : a < 9223372036854775808) (hb : b < 9223372036854775808) : (lN a < lN b) = (a < b) := by
  apply propext
  rw [Int64.lt_iff_toInt_lt, lN_toIntN ha, lN_toIntN hb]
  omega
theorem leq_ok {a b : Nat} (ha : a < 9223372036854775808) (hb : b < 9223372036854775808) : (lN a = lN b) = (a = b) := by
  apply propext
  refine ⟨fun h => ?_, fun h => by rw [h]⟩
  have := congrArg Int64.toInt h
  rw [lN_toIntN ha, lN_toIntN hb] at this
  omega
theorem lN0 : (0 : Int64) = lN 0 := by decide +kernel
theorem lN1 : (1 : Int64) = lN 1 := by decide +kernel
theorem nIl_ok {n : Nat} (h : n < 2147483648) : (nI n).toInt64 = lN n := nI_l h
/-- what a symbol costs -/
def cs (f : Nat → Nat) (y : Nat) : Nat := if y < 10 then 1 else f (y - 10)
def sm (f g : Nat → Nat) : Nat → Nat
  | 0 => 0
  | n + 1 => sm f g n + cs f (g n)
def fStep (G : Gr) (f : Nat → Nat) (p : Nat) : Nat → Nat := fun x => if x = G.2.1 p then min (f x) (sm f (G.2.2.2 p) (G.2.2.1 p)) else f x
def fR (G : Gr) (f : Nat → Nat) : Nat → (Nat → Nat)
  | 0 => f
  | n + 1 => fStep G (fR G f n) n
def fI (G : Gr) (K : Nat) : Nat → (Nat → Nat)
  | 0 => fun _ => K
  | r + 1 => fR G (fI G K r) G.1
theorem fR_le (G : Gr) (f : Nat → Nat) (n x : Nat) : fR G f n x ≤ f x := by
  induction n with
  | zero => exact Nat.le_refl _
  | succ n ih =>
    show fStep G (fR G f n) n x ≤ f x
    unfold fStep
    split
    · exact Nat.le_trans (Nat.min_le_left _ _) ih
    · exact ih
theorem fI_le (G : Gr) (K r x : Nat) : fI G K r x ≤ K := by
  induction r with
  | zero => exact Nat.le_refl _
  | succ r ih => exact Nat.le_trans (fR_le G _ _ x) ih
theorem sm_le {f g : Nat → Nat} {K n : Nat} (hK : 1 ≤ K) (hf : ∀ x, f x ≤ K) : sm f g n ≤ n * K := by
  induction n with
  | zero => exact Nat.zero_le _
  | succ n ih =>
    have : cs f (g n) ≤ K := by
      unfold cs
      split
      · exact hK
      · exact hf _
    show sm f g n + cs f (g n) ≤ (n + 1) * K
    rw [Nat.succ_mul]
    omega
/-- an array of numbers -/
def NA (f : Nat → Int32) (n : Nat) (F : Nat → Nat) : Prop := ∀ x, x < n → f x = nI (F x)
theorem laysFewest_e {G : Gr} {s : PH} (h : MG G (s.1 149)) (w : WG G) {n : Nat} (hn : 20 ≤ n) : wp (fX12_laysFewest n s) (fun _ t => Fr (fun q => q = 154) s t ∧ NA (t.1 154) 6 (fI G 1000000000 6)) := by
  have h16 := w.1.2
  unfold fX12_laysFewest
  simp only [lt_def]
  refine wp_for2 6 (by omega) (fun j t => Fr (fun q => q = 154) s t ∧ NA (t.1 154) j (fun _ => 1000000000)) ?_ ?_ n 0 s (by omega) ⟨Fr.rf, fun x hx => absurd hx (Nat.not_lt_zero x)⟩ (by omega)
  · rintro rec j t hj ⟨hf, hb⟩ ih
    simp (disch := omega) only [le_ok, if_neg, wa_ok, lt_def, nI_add, cl_ok]
    refine ih _ ⟨hf.tr (Fr.si rfl), fun x hx => ?_⟩
    rw [si_q]
    by_cases e : x = j
    · simp [e]
    · simp [e, hb x (by omega)]
  · rintro rec t ⟨hf, hb⟩
    simp (disch := omega) only [le_ok, if_pos]
    refine wp_for2 6 (by omega) (fun r t => Fr (fun q => q = 154) s t ∧ NA (t.1 154) 6 (fI G 1000000000 r)) ?_ ?_ n 0 t (by omega) ⟨hf, hb⟩ (by omega)
    · rintro rec2 r t hr ⟨hf, hb⟩ ih
      simp (disch := omega) only [le_ok, if_neg]
      refine wp_for2 G.1 (by omega) (fun p t => Fr (fun q => q = 154) s t ∧ NA (t.1 154) 6 (fR G (fI G 1000000000 r) p)) ?_ ?_ n 0 t (by omega) ⟨hf, hb⟩ (by omega)
      · rintro rec3 p t hp ⟨hf, hb⟩ ih3
        have hM := h.fr hf (by decide)
        have h6 := (w.2.1 p hp).1
        have h5 := (w.2.1 p hp).2
        have hle : ∀ x, fR G (fI G 1000000000 r) p x ≤ 1000000000 := fun x => Nat.le_trans (fR_le G _ p x) (fI_le G _ r x)
        simp (disch := omega) only [many_e hM, bd_ok, le_ok, if_neg, lN0]
        refine wp_for3 (G.2.2.1 p) (by omega) (fun i u t' => t' = t ∧ u = lN (sm (fR G (fI G 1000000000 r) p) (G.2.2.2 p) i)) ?_ ?_ n 0 _ t (by omega) ⟨rfl, rfl⟩ (by omega)
        · rintro rec4 i u t' hi ⟨rfl, rfl⟩ ih4
          have hy := sy16 w hp hi
          simp (disch := omega) only [size_e hM w hp, bd_ok, le_ok, if_neg, at_e hM w hp hi, jn_def, lt_def, nI_add]
          by_cases hc : 10 ≤ G.2.2.2 p i
          · rw [if_pos hc]
            have hx := hle (G.2.2.2 p i - 10)
            simp (disch := omega) only [nI_subN, ra_ok]
            rw [hb _ (by omega)]
            simp (disch := omega) only [nIl_ok, lN_add]
            refine ih4 _ _ ⟨rfl, ?_⟩
            show _ = lN (sm (fR G (fI G 1000000000 r) p) (G.2.2.2 p) i + cs (fR G (fI G 1000000000 r) p) (G.2.2.2 p i))
            unfold cs
            rw [if_neg (by omega)]
          · rw [if_neg hc, lN1, lN_add]
            refine ih4 _ _ ⟨rfl, ?_⟩
            show _ = lN (sm (fR G (fI G 1000000000 r) p) (G.2.2.2 p) i + cs (fR G (fI G 1000000000 r) p) (G.2.2.2 p i))
            unfold cs
            rw [if_pos (by omega)]
        · rintro rec4 u t' ⟨rfl, rfl⟩
          have hs := sm_le (g := G.2.2.2 p) (n := G.2.2.1 p) (K := 1000000000) (by omega) hle
          have hs2 : sm (fR G (fI G 1000000000 r) p) (G.2.2.2 p) (G.2.2.1 p) ≤ 5000000000 := Nat.le_trans hs (by omega)
          have hx := hle (G.2.1 p)
          simp (disch := omega) only [size_e hM w hp, bd_ok, le_ok, if_pos, left_e hM w hp, ra_ok, jn_def, lt_def, nI_add]
          rw [hb _ h6]
          simp (disch := omega) only [nIl_ok, lle_ok, wa_ok, cl_ok, lN_i]
          have fin : ∀ v : Nat, v = min (fR G (fI G 1000000000 r) p (G.2.1 p)) (sm (fR G (fI G 1000000000 r) p) (G.2.2.2 p) (G.2.2.1 p)) → wp (rec3 (nI (p + 1)) (si t' 154 (G.2.1 p) (nI v))) (fun _ t => Fr (fun q => q = 154) s t ∧ NA (t.1 154) 6 (fI G 1000000000 6)) := by
            intro v ev
            refine ih3 _ ⟨hf.tr (Fr.si rfl), fun x hx => ?_⟩
            rw [si_q]
            show (if x = G.2.1 p then nI v else t'.1 154 x) = nI (fStep G (fR G (fI G 1000000000 r) p) p x)
            unfold fStep
            by_cases e : x = G.2.1 p
            · rw [if_pos e, if_pos e, ev, e]
            · rw [if_neg e, if_neg e]; exact hb x hx
          split
          · exact fin _ (by omega)
          · exact fin _ (by omega)
      · rintro rec3 t ⟨hf, hb⟩
        have hM := h.fr hf (by decide)
        simp (disch := omega) only [many_e hM, bd_ok, le_ok, if_pos, nI_add, lt_def]
        exact ih _ ⟨hf, hb⟩
    · rintro rec2 t ⟨hf, hb⟩
      simp (disch := omega) only [le_ok, if_pos]
      exact wp_some ⟨hf, hb⟩
/-! ===== the reference: which nonterminals are reached ===== -/
/-- among the first n of f there is y -/
def hN (f : Nat → Nat) (y : Nat) : Nat → Bool
  | 0 => false
  | n + 1 => hN f y n || decide (f n = y)
def rStep (G : Gr) (R : Nat → Bool) (p : Nat) : Nat → Bool := fun x => R x || (R (G.2.1 p) && hN (G.2.2.2 p) (10 + x) (G.2.2.1 p))
def rR (G : Gr) (R : Nat → Bool) : Nat → (Nat → Bool)
  | 0 => R
  | n + 1 => rStep G (rR G R n) n
def rI (G : Gr) : Nat → (Nat → Bool)
  | 0 => fun x => decide (x = G.2.1 0)
  | r + 1 => rR G (rI G r) G.1
theorem laysReached_e {G : Gr} {s : PH} (h : MG G (s.1 149)) (w : WG G) {n : Nat} (hn : 20 ≤ n) : wp (fX12_laysReached n s) (fun _ t => Fr (fun q => q = 155) s t ∧ BA (t.1 155) 6 (rI G 6)) := by
  have h16 := w.1.2
  have h06 := (w.2.1 0 w.1.1).1
  unfold fX12_laysReached
  simp only [lt_def]
  refine wp_for2 6 (by omega) (fun j t => Fr (fun q => q = 155) s t ∧ BA (t.1 155) j (rI G 0)) ?_ ?_ n 0 s (by omega) ⟨Fr.rf, fun x hx => absurd hx (Nat.not_lt_zero x)⟩ (by omega)
  · rintro rec j t hj ⟨hf, hb⟩ ih
    have hM := h.fr hf (by decide)
    simp (disch := omega) only [le_ok, if_neg, start_e hM w, bd_ok, jn_def, wa_ok, lt_def, nI_add, cl_ok, eq_ok, nz0, nz1]
    have fin : ∀ b : Bool, b = decide (j = G.2.1 0) → wp (rec (nI (j + 1)) (si t 155 j (bI b))) (fun _ t => Fr (fun q => q = 155) s t ∧ BA (t.1 155) 6 (rI G 6)) := by
      intro b eb
      refine ih _ ⟨hf.tr (Fr.si rfl), fun x hx => ?_⟩
      rw [si_q]
      by_cases e : x = j
      · simp [e, eb, rI]
      · simp [e, hb x (by omega)]
    split
    · exact fin true (by rw [decide_eq_true ‹_›])
    · exact fin false (by rw [decide_eq_false ‹_›])
  · rintro rec t ⟨hf, hb⟩
    simp (disch := omega) only [le_ok, if_pos]
    refine wp_for2 6 (by omega) (fun r t => Fr (fun q => q = 155) s t ∧ BA (t.1 155) 6 (rI G r)) ?_ ?_ n 0 t (by omega) ⟨hf, hb⟩ (by omega)
    · rintro rec2 r t hr ⟨hf, hb⟩ ih
      simp (disch := omega) only [le_ok, if_neg]
      refine wp_for2 G.1 (by omega) (fun p t => Fr (fun q => q = 155) s t ∧ BA (t.1 155) 6 (rR G (rI G r) p)) ?_ ?_ n 0 t (by omega) ⟨hf, hb⟩ (by omega)
      · rintro rec3 p t hp ⟨hf, hb⟩ ih3
        have hM := h.fr hf (by decide)
        have h6 := (w.2.1 p hp).1
        have h5 := (w.2.1 p hp).2
        simp (disch := omega) only [many_e hM, bd_ok, le_ok, if_neg]
        refine wp_for2 (G.2.2.1 p) (by omega) (fun i t' => Fr (fun q => q = 155) s t' ∧ BA (t'.1 155) 6 (fun x => rR G (rI G r) p x || (rR G (rI G r) p (G.2.1 p) && hN (G.2.2.2 p) (10 + x) i))) ?_ ?_ n 0 t (by omega) ⟨hf, hb.congr (fun x _ => by simp [hN])⟩ (by omega)
        · rintro rec4 i t' hi ⟨hf', hb'⟩ ih4
          have hM' := h.fr hf' (by decide)
          have hy := sy16 w hp hi
          simp (disch := omega) only [size_e hM' w hp, bd_ok, le_ok, if_neg, left_e hM' w hp, ra_ok, jn_def, lt_def, nI_add]
          rw [hb' _ h6]
          simp only [bI_0]
          by_cases hr1 : rR G (rI G r) p (G.2.1 p) = false
          · rw [if_pos (by rw [hr1]; rfl)]
            refine ih3 _ ⟨hf', hb'.congr (fun x _ => ?_)⟩
            show _ = rStep G (rR G (rI G r) p) p x
            unfold rStep
            rw [hr1]
            rfl
          · have hr2 : rR G (rI G r) p (G.2.1 p) = true := by simpa using hr1
            rw [if_neg (by rw [hr2]; simp)]
            simp (disch := omega) only [at_e hM' w hp hi, bd_ok, lt_ok]
            by_cases hc : G.2.2.2 p i < 10
            · rw [if_pos hc]
              refine ih4 _ ⟨hf', hb'.congr (fun x _ => ?_)⟩
              show _ = (rR G (rI G r) p x || (rR G (rI G r) p (G.2.1 p) && (hN (G.2.2.2 p) (10 + x) i || decide (G.2.2.2 p i = 10 + x))))
              rw [decide_eq_false (by omega), Bool.or_false]
            · rw [if_neg hc]
              simp (disch := omega) only [nI_subN, wa_ok, cl_ok, nz1]
              refine ih4 _ ⟨hf'.tr (Fr.si rfl), fun x hx => ?_⟩
              rw [si_q]
              show (if x = G.2.2.2 p i - 10 then nI 1 else t'.1 155 x) = bI (rR G (rI G r) p x || (rR G (rI G r) p (G.2.1 p) && (hN (G.2.2.2 p) (10 + x) i || decide (G.2.2.2 p i = 10 + x))))
              by_cases e : x = G.2.2.2 p i - 10
              · rw [if_pos e, decide_eq_true (by omega), hr2, Bool.or_true, Bool.true_and, Bool.or_true]
                rfl
              · rw [if_neg e, decide_eq_false (by omega), Bool.or_false]
                exact hb' x hx
        · rintro rec4 t' ⟨hf', hb'⟩
          have hM' := h.fr hf' (by decide)
          simp (disch := omega) only [size_e hM' w hp, bd_ok, le_ok, if_pos, jn_def, lt_def, nI_add]
          exact ih3 _ ⟨hf', hb'⟩
      · rintro rec3 t ⟨hf, hb⟩
        have hM := h.fr hf (by decide)
        simp (disch := omega) only [many_e hM, bd_ok, le_ok, if_pos, nI_add, lt_def]
        exact ih _ ⟨hf, hb⟩
    · rintro rec2 t ⟨hf, hb⟩
      simp (disch := omega) only [le_ok, if_pos]
      exact wp_some ⟨hf, hb⟩
