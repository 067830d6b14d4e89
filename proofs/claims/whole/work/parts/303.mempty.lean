/-! ===== the reference: which nonterminals are empty ===== -/
/-- a symbol that is an empty nonterminal -/
def eS (E : Nat → Bool) (y : Nat) : Bool := decide (10 ≤ y) && E (y - 10)
/-- n symbols from a on are empty -/
def aE (E : Nat → Bool) (f : Nat → Nat) (a : Nat) : Nat → Bool
  | 0 => true
  | n + 1 => aE E f a n && eS E (f (a + n))
theorem isEmpty_e {s : PH} {E : Nat → Bool} (hE : BA (s.1 153) 6 E) {y : Nat} (hy : y < 16) : fX12_isEmpty (nI y) s = some (bI (eS E y), s) := by
  unfold fX12_isEmpty eS
  by_cases h : y < 10
  · simp (disch := omega) only [lt_ok, if_pos]
    rw [decide_eq_false (by omega)]
    rfl
  · simp (disch := omega) only [lt_ok, if_neg, nI_subN, ra_ok]
    rw [hE (y - 10) (by omega), decide_eq_true (by omega)]
    simp only [bI_0, Bool.true_and]
    cases E (y - 10) <;> rfl
theorem sy16 {G : Gr} (w : WG G) {p i : Nat} (hp : p < G.1) (hi : i < G.2.2.1 p) : G.2.2.2 p i < 16 := by
  rcases w.2.2.1 p i hp hi with h | h <;> omega
theorem areEmpty_e {G : Gr} {s : PH} {E : Nat → Bool} (h : MG G (s.1 149)) (w : WG G) (hE : BA (s.1 153) 6 E) {n p a k : Nat} (hp : p < G.1) (hk : a + k ≤ G.2.2.1 p) (hn : 7 ≤ n) : fX12_areEmpty n (nI p) (nI a) (nI (a + k)) s = some (bI (aE E (G.2.2.2 p) a k), s) := by
  have h5 := (w.2.1 p hp).2
  have key : wp (fX12_areEmpty n (nI p) (nI a) (nI (a + k)) s) (fun r t => r = bI (aE E (G.2.2.2 p) a k) ∧ t = s) := by
    unfold fX12_areEmpty
    simp only [lt_def]
    refine wp_for3 (a + k) (by omega) (fun j x t => t = s ∧ a ≤ j ∧ x = bI (aE E (G.2.2.2 p) a (j - a))) ?_ ?_ n a _ s (by omega) ⟨rfl, Nat.le_refl a, by rw [Nat.sub_self]; rfl⟩ (by omega)
    · rintro rec j x t hj ⟨rfl, haj, rfl⟩ ih
      have e : aE E (G.2.2.2 p) a (j + 1 - a) = (aE E (G.2.2.2 p) a (j - a) && eS E (G.2.2.2 p j)) := by
        rw [show j + 1 - a = (j - a) + 1 by omega]
        show (aE E (G.2.2.2 p) a (j - a) && eS E (G.2.2.2 p (a + (j - a)))) = _
        rw [show a + (j - a) = j by omega]
      simp (disch := omega) only [le_ok, if_neg, jn_def, lt_def, nI_add, bI_0]
      by_cases h1 : aE E (G.2.2.2 p) a (j - a) = false
      · rw [if_pos h1]
        exact ih _ _ ⟨rfl, by omega, by rw [e, h1]; rfl⟩
      · rw [if_neg h1]
        have h1' : aE E (G.2.2.2 p) a (j - a) = true := by simpa using h1
        rw [at_e h w hp (by omega), bd_ok, isEmpty_e hE (sy16 w hp (by omega)), bd_ok]
        simp only [bI_0]
        by_cases h2 : eS E (G.2.2.2 p j) = false
        · rw [if_pos h2]
          exact ih _ _ ⟨rfl, by omega, by rw [e, h2, Bool.and_false]; rfl⟩
        · rw [if_neg h2]
          have h2' : eS E (G.2.2.2 p j) = true := by simpa using h2
          exact ih _ _ ⟨rfl, by omega, by rw [e, h1', h2']; rfl⟩
    · rintro rec x t ⟨rfl, haj, rfl⟩
      simp (disch := omega) only [le_ok, if_pos, rz_bI]
      exact wp_some ⟨by rw [show a + k - a = k by omega], rfl⟩
  obtain ⟨r, t, e, rfl, rfl⟩ := key
  exact e
/-- a production is looked at: the empty nonterminals behind it -/
def eStep (G : Gr) (E : Nat → Bool) (p : Nat) : Nat → Bool := fun x => if x = G.2.1 p then E x || aE E (G.2.2.2 p) 0 (G.2.2.1 p) else E x
def eR (G : Gr) (E : Nat → Bool) : Nat → (Nat → Bool)
  | 0 => E
  | n + 1 => eStep G (eR G E n) n
def eI (G : Gr) : Nat → (Nat → Bool)
  | 0 => fun _ => false
  | r + 1 => eR G (eI G r) G.1
theorem MG.fr {G : Gr} {P : Nat → Prop} {s t : PH} (h : MG G (s.1 149)) (hf : Fr P s t) (hP : ¬ P 149) : MG G (t.1 149) := by rw [(hf 149 hP).1]; exact h
theorem laysEmpty_e {G : Gr} {s : PH} (h : MG G (s.1 149)) (w : WG G) {n : Nat} (hn : 20 ≤ n) : wp (fX12_laysEmpty n s) (fun _ t => Fr (fun q => q = 153) s t ∧ BA (t.1 153) 6 (eI G 6)) := by
  have h16 := w.1.2
  unfold fX12_laysEmpty
  simp only [lt_def]
  refine wp_for2 6 (by omega) (fun j t => Fr (fun q => q = 153) s t ∧ BA (t.1 153) j (fun _ => false)) ?_ ?_ n 0 s (by omega) ⟨Fr.rf, fun x hx => absurd hx (Nat.not_lt_zero x)⟩ (by omega)
  · rintro rec j t hj ⟨hf, hb⟩ ih
    simp (disch := omega) only [le_ok, if_neg, wa_ok, lt_def, nI_add, nz0, cl_ok]
    refine ih _ ⟨hf.tr (Fr.si rfl), fun x hx => ?_⟩
    rw [si_q]
    by_cases e : x = j
    · simp [e, bI]
    · simp [e, hb x (by omega)]
  · rintro rec t ⟨hf, hb⟩
    simp (disch := omega) only [le_ok, if_pos]
    refine wp_for2 6 (by omega) (fun r t => Fr (fun q => q = 153) s t ∧ BA (t.1 153) 6 (eI G r)) ?_ ?_ n 0 t (by omega) ⟨hf, hb⟩ (by omega)
    · rintro rec2 r t hr ⟨hf, hb⟩ ih
      simp (disch := omega) only [le_ok, if_neg]
      refine wp_for2 G.1 (by omega) (fun p t => Fr (fun q => q = 153) s t ∧ BA (t.1 153) 6 (eR G (eI G r) p)) ?_ ?_ n 0 t (by omega) ⟨hf, hb⟩ (by omega)
      · rintro rec3 p t hp ⟨hf, hb⟩ ih3
        have hM := h.fr hf (by decide)
        have h6 := (w.2.1 p hp).1
        have h5 := (w.2.1 p hp).2
        simp (disch := omega) only [many_e hM, bd_ok, le_ok, if_neg, left_e hM w hp, ra_ok, jn_def, lt_def]
        rw [hb _ h6]
        have fin : ∀ (b : Bool), b = (eR G (eI G r) p (G.2.1 p) || aE (eR G (eI G r) p) (G.2.2.2 p) 0 (G.2.2.1 p)) → wp (wa 6 (nI (G.2.1 p)) (rec3 (nI p + nI 1) (si t 153 (nI (G.2.1 p)).toNatClampNeg (nz (bI b))))) (fun _ t => Fr (fun q => q = 153) s t ∧ BA (t.1 153) 6 (eI G 6)) := by
          intro b eb
          simp (disch := omega) only [wa_ok, nz_bI, cl_ok, nI_add]
          refine ih3 _ ⟨hf.tr (Fr.si rfl), fun x hx => ?_⟩
          rw [si_q]
          show (if x = G.2.1 p then bI b else t.1 153 x) = bI (eStep G (eR G (eI G r) p) p x)
          unfold eStep
          by_cases e : x = G.2.1 p
          · rw [if_pos e, if_pos e, eb, e]
          · rw [if_neg e, if_neg e]; exact hb x hx
        simp only [bI_0]
        by_cases h1 : eR G (eI G r) p (G.2.1 p) = false
        · rw [if_pos h1, size_e hM w hp, bd_ok]
          have ha := areEmpty_e (n := n) hM w hb (p := p) (a := 0) (k := G.2.2.1 p) hp (by omega) (by omega)
          rw [Nat.zero_add] at ha
          rw [ha, bd_ok]
          simp only [bI_0]
          by_cases h2 : aE (eR G (eI G r) p) (G.2.2.2 p) 0 (G.2.2.1 p) = false
          · rw [if_pos h2]
            exact fin false (by rw [h1, h2]; rfl)
          · rw [if_neg h2]
            have h2' : aE (eR G (eI G r) p) (G.2.2.2 p) 0 (G.2.2.1 p) = true := by simpa using h2
            exact fin true (by rw [h2', Bool.or_true])
        · rw [if_neg h1]
          have h1' : eR G (eI G r) p (G.2.1 p) = true := by simpa using h1
          exact fin true (by rw [h1', Bool.true_or])
      · rintro rec3 t ⟨hf, hb⟩
        have hM := h.fr hf (by decide)
        simp (disch := omega) only [many_e hM, bd_ok, le_ok, if_pos, nI_add, lt_def]
        exact ih _ ⟨hf, hb⟩
    · rintro rec2 t ⟨hf, hb⟩
      simp (disch := omega) only [le_ok, if_pos]
      exact wp_some ⟨hf, hb⟩
