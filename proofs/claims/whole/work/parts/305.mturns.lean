/-! ===== the reference: relations of nonterminals, closed ===== -/
def wcl (T : Nat → Bool) (b : Nat) : Nat → Bool := fun k => T k || (T (6 * (k / 6) + b) && T (6 * b + k % 6))
def clI (T : Nat → Bool) : Nat → (Nat → Bool)
  | 0 => T
  | b + 1 => wcl (clI T b) b
theorem wcl_row {T : Nat → Bool} {b x : Nat} (hb : b < 6) : wcl T b (6 * x + b) = T (6 * x + b) := by
  unfold wcl
  rw [show (6 * x + b) / 6 = x by omega, show (6 * x + b) % 6 = b by omega]
  cases T (6 * x + b) <;> simp
theorem wcl_col {T : Nat → Bool} {b y : Nat} (hy : y < 6) : wcl T b (6 * b + y) = T (6 * b + y) := by
  unfold wcl
  rw [show (6 * b + y) / 6 = b by omega, show (6 * b + y) % 6 = y by omega]
  cases T (6 * b + y) <;> simp
theorem closes_e {s : PH} {q n : Nat} {T : Nat → Bool} (hT : BA (s.1 q) 36 T) (hn : 40 ≤ n) : wp (fX12_closes n q 36 s) (fun _ t => Fr (fun x => x = q) s t ∧ BA (t.1 q) 36 (clI T 6)) := by
  unfold fX12_closes
  simp only [lt_def]
  refine wp_for2 6 (by omega) (fun b t => Fr (fun x => x = q) s t ∧ BA (t.1 q) 36 (clI T b)) ?_ ?_ n 0 s (by omega) ⟨Fr.rf, hT⟩ (by omega)
  · rintro rec b t hb ⟨hf, hB⟩ ih
    simp (disch := omega) only [le_ok, if_neg]
    refine wp_for2 36 (by omega) (fun k t => Fr (fun x => x = q) s t ∧ BA (t.1 q) 36 (fun j => if j < k then wcl (clI T b) b j else clI T b j)) ?_ ?_ n 0 t (by omega) ⟨hf, hB.congr (fun x _ => by simp)⟩ (by omega)
    · rintro rec2 k t hk ⟨hf, hB⟩ ih2
      have ek : k - k / 6 * 6 = k % 6 := by omega
      simp (disch := omega) only [le_ok, if_neg, pk_div, nI_mulN, nI_subN, ek, nI_add, ra_ok, jn_def, lt_def, wa_ok, cl_ok]
      rw [hB k hk, hB (6 * (k / 6) + b) (by omega), hB (6 * b + k % 6) (by omega)]
      have e1 : (if 6 * (k / 6) + b < k then wcl (clI T b) b (6 * (k / 6) + b) else clI T b (6 * (k / 6) + b)) = clI T b (6 * (k / 6) + b) := by
        split
        · exact wcl_row hb
        · rfl
      have e2 : (if 6 * b + k % 6 < k then wcl (clI T b) b (6 * b + k % 6) else clI T b (6 * b + k % 6)) = clI T b (6 * b + k % 6) := by
        split
        · exact wcl_col (by omega)
        · rfl
      simp only [e1, e2, if_neg (Nat.lt_irrefl k)]
      have fin : ∀ c : Bool, c = wcl (clI T b) b k → wp (rec2 (nI (k + 1)) (si t q k (bI c))) (fun _ t => Fr (fun x => x = q) s t ∧ BA (t.1 q) 36 (clI T 6)) := by
        intro c ec
        refine ih2 _ ⟨hf.tr (Fr.si rfl), fun x hx => ?_⟩
        rw [si_q]
        by_cases e : x = k
        · subst e
          simp [ec]
        · simp only [e, if_false]
          rw [hB x hx]
          dsimp only
          by_cases h1 : x < k
          · rw [if_pos h1, if_pos (by omega)]
          · rw [if_neg h1, if_neg (by omega)]
      simp only [bI_0, nz0, nz1]
      by_cases h1 : clI T b k = false
      · rw [if_pos h1]
        by_cases h2 : clI T b (6 * (k / 6) + b) = false
        · rw [if_pos h2]
          exact fin false (by unfold wcl; rw [h1, h2]; rfl)
        · rw [if_neg h2]
          have h2' : clI T b (6 * (k / 6) + b) = true := by simpa using h2
          by_cases h3 : clI T b (6 * b + k % 6) = false
          · rw [if_pos h3]
            exact fin false (by unfold wcl; rw [h1, h2', h3]; rfl)
          · rw [if_neg h3]
            have h3' : clI T b (6 * b + k % 6) = true := by simpa using h3
            exact fin true (by unfold wcl; rw [h2', h3', Bool.and_self, Bool.or_true])
      · rw [if_neg h1]
        have h1' : clI T b k = true := by simpa using h1
        exact fin true (by unfold wcl; rw [h1', Bool.true_or])
    · rintro rec2 t ⟨hf, hB⟩
      simp (disch := omega) only [le_ok, if_pos, nI_add, lt_def]
      exact ih _ ⟨hf, hB.congr (fun x hx => by simp [hx]; rfl)⟩
  · rintro rec t ⟨hf, hB⟩
    simp (disch := omega) only [le_ok, if_pos]
    exact wp_some ⟨hf, hB⟩
/-- symbol i of production p, as a place where a relation begins (c: as becoming) -/
def tQ (c : Bool) (G : Gr) (E : Nat → Bool) (p i : Nat) : Bool := (decide (10 ≤ G.2.2.2 p i) && aE E (G.2.2.2 p) 0 i) && (!c || aE E (G.2.2.2 p) (i + 1) (G.2.2.1 p - (i + 1)))
def tRow (c : Bool) (G : Gr) (E : Nat → Bool) (p : Nat) : Nat → Nat → Bool
  | 0, _ => false
  | i + 1, k => tRow c G E p i k || (tQ c G E p i && decide (k = 6 * G.2.1 p + G.2.2.2 p i - 10))
def tAll (c : Bool) (G : Gr) (E : Nat → Bool) : Nat → Nat → Bool
  | 0, _ => false
  | p + 1, k => tAll c G E p k || tRow c G E p (G.2.2.1 p) k
def is2 (q : Nat) : Prop := q = 156 ∨ q = 157
theorem laysTurns_e {G : Gr} {s : PH} {E : Nat → Bool} (h : MG G (s.1 149)) (w : WG G) (hE : BA (s.1 153) 6 E) {n : Nat} (hn : 40 ≤ n) : wp (fX12_laysTurns n s) (fun _ t => Fr is2 s t ∧ BA (t.1 156) 36 (clI (tAll false G E G.1) 6) ∧ BA (t.1 157) 36 (clI (tAll true G E G.1) 6)) := by
  have h16 := w.1.2
  unfold fX12_laysTurns
  simp only [lt_def]
  refine wp_for2 36 (by omega) (fun j t => Fr is2 s t ∧ BA (t.1 156) j (fun _ => false) ∧ BA (t.1 157) j (fun _ => false)) ?_ ?_ n 0 s (by omega) ⟨Fr.rf, fun x hx => absurd hx (Nat.not_lt_zero x), fun x hx => absurd hx (Nat.not_lt_zero x)⟩ (by omega)
  · rintro rec j t hj ⟨hf, hb, hc⟩ ih
    simp (disch := omega) only [le_ok, if_neg, wa_ok, lt_def, nI_add, cl_ok, nz0]
    refine ih _ ⟨(hf.tr (Fr.si (Or.inl rfl))).tr (Fr.si (Or.inr rfl)), fun x hx => ?_, fun x hx => ?_⟩
    · rw [si_r _ _ _ _ (by decide), si_q]
      by_cases e : x = j
      · simp [e, bI]
      · simp [e, hb x (by omega)]
    · rw [si_q, si_r _ _ _ _ (by decide)]
      by_cases e : x = j
      · simp [e, bI]
      · simp [e, hc x (by omega)]
  · rintro rec t ⟨hf, hb, hc⟩
    simp (disch := omega) only [le_ok, if_pos]
    refine wp_for2 G.1 (by omega) (fun p t => Fr is2 s t ∧ BA (t.1 156) 36 (tAll false G E p) ∧ BA (t.1 157) 36 (tAll true G E p)) ?_ ?_ n 0 t (by omega) ⟨hf, hb, hc⟩ (by omega)
    · rintro rec2 p t hp ⟨hf, hb, hc⟩ ih
      have hM := h.fr hf (by unfold is2; decide)
      have h6 := (w.2.1 p hp).1
      have h5 := (w.2.1 p hp).2
      simp (disch := omega) only [many_e hM, bd_ok, le_ok, if_neg]
      refine wp_for2 (G.2.2.1 p) (by omega) (fun i t => Fr is2 s t ∧ BA (t.1 156) 36 (fun k => tAll false G E p k || tRow false G E p i k) ∧ BA (t.1 157) 36 (fun k => tAll true G E p k || tRow true G E p i k)) ?_ ?_ n 0 t (by omega) ⟨hf, hb.congr (fun x _ => by simp [tRow]), hc.congr (fun x _ => by simp [tRow])⟩ (by omega)
      · rintro rec3 i t hi ⟨hf, hb, hc⟩ ih3
        have hM := h.fr hf (by unfold is2; decide)
        have hE' : BA (t.1 153) 6 E := by rw [(hf 153 (by unfold is2; decide)).1]; exact hE
        have hy := sy16 w hp hi
        have eR : ∀ (c : Bool) (k : Nat), tRow c G E p (i + 1) k = (tRow c G E p i k || (tQ c G E p i && decide (k = 6 * G.2.1 p + G.2.2.2 p i - 10))) := fun _ _ => rfl
        simp (disch := omega) only [size_e hM w hp, bd_ok, le_ok, if_neg, at_e hM w hp hi, jn_def, lt_def, nI_add, lt_ok]
        have skip : (∀ c : Bool, tQ c G E p i = false) → wp (rec3 (nI (i + 1)) t) (fun _ t => Fr is2 s t ∧ BA (t.1 156) 36 (clI (tAll false G E G.1) 6) ∧ BA (t.1 157) 36 (clI (tAll true G E G.1) 6)) := by
          intro hq
          refine ih3 _ ⟨hf, hb.congr (fun x _ => ?_), hc.congr (fun x _ => ?_)⟩
          · show _ = (tAll false G E p x || tRow false G E p (i + 1) x)
            rw [eR, hq]; simp
          · show _ = (tAll true G E p x || tRow true G E p (i + 1) x)
            rw [eR, hq]; simp
        by_cases hcx : G.2.2.2 p i < 10
        · rw [if_pos hcx]
          exact skip (fun c => by unfold tQ; rw [decide_eq_false (by omega)]; rfl)
        · rw [if_neg hcx]
          have ha := areEmpty_e (n := n) hM w hE' (p := p) (a := 0) (k := i) hp (by omega) (by omega)
          rw [Nat.zero_add] at ha
          rw [ha, bd_ok]
          simp only [bI_0]
          by_cases h1 : aE E (G.2.2.2 p) 0 i = false
          · rw [if_pos h1]
            exact skip (fun c => by unfold tQ; rw [h1]; simp)
          · rw [if_neg h1]
            have h1' : aE E (G.2.2.2 p) 0 i = true := by simpa using h1
            have hk36 : 6 * G.2.1 p + G.2.2.2 p i - 10 < 36 := by omega
            simp (disch := omega) only [left_e hM w hp, bd_ok, at_e hM w hp hi, nI_mulN, nI_add, nI_subN, wa_ok, ra_ok, cl_ok, nz1, nz0]
            rw [si_r _ _ _ _ (show 157 ≠ 156 by decide), hc _ hk36]
            have eQ0 : tQ false G E p i = true := by unfold tQ; rw [decide_eq_true (by omega), h1']; rfl
            have eQ1 : tQ true G E p i = aE E (G.2.2.2 p) (i + 1) (G.2.2.1 p - (i + 1)) := by unfold tQ; rw [decide_eq_true (by omega), h1']; rfl
            have fin : ∀ c : Bool, c = (tAll true G E p (6 * G.2.1 p + G.2.2.2 p i - 10) || tRow true G E p (i + 1) (6 * G.2.1 p + G.2.2.2 p i - 10)) → wp (rec3 (nI (i + 1)) (si (si t 156 (6 * G.2.1 p + G.2.2.2 p i - 10) (nI 1)) 157 (6 * G.2.1 p + G.2.2.2 p i - 10) (bI c))) (fun _ t => Fr is2 s t ∧ BA (t.1 156) 36 (clI (tAll false G E G.1) 6) ∧ BA (t.1 157) 36 (clI (tAll true G E G.1) 6)) := by
              intro c ec
              refine ih3 _ ⟨(hf.tr (Fr.si (Or.inl rfl))).tr (Fr.si (Or.inr rfl)), fun x hx => ?_, fun x hx => ?_⟩
              · rw [si_r _ _ _ _ (by decide), si_q]
                show (if x = 6 * G.2.1 p + G.2.2.2 p i - 10 then nI 1 else t.1 156 x) = bI (tAll false G E p x || tRow false G E p (i + 1) x)
                rw [eR, eQ0, Bool.true_and]
                by_cases e : x = 6 * G.2.1 p + G.2.2.2 p i - 10
                · rw [if_pos e, decide_eq_true e, Bool.or_true, Bool.or_true]; rfl
                · rw [if_neg e, decide_eq_false e, Bool.or_false]; exact hb x hx
              · rw [si_q, si_r _ _ _ _ (by decide)]
                show (if x = 6 * G.2.1 p + G.2.2.2 p i - 10 then bI c else t.1 157 x) = bI (tAll true G E p x || tRow true G E p (i + 1) x)
                by_cases e : x = 6 * G.2.1 p + G.2.2.2 p i - 10
                · rw [if_pos e, ec, e]
                · rw [if_neg e, eR, decide_eq_false e, Bool.and_false, Bool.or_false]; exact hc x hx
            simp only [bI_0]
            have hM2 : MG G ((si t 156 (6 * G.2.1 p + G.2.2.2 p i - 10) (nI 1)).1 149) := by rw [si_r _ _ _ _ (by decide)]; exact hM
            have hE2 : BA ((si t 156 (6 * G.2.1 p + G.2.2.2 p i - 10) (nI 1)).1 153) 6 E := by rw [si_r _ _ _ _ (by decide)]; exact hE'
            by_cases h2 : (tAll true G E p (6 * G.2.1 p + G.2.2.2 p i - 10) || tRow true G E p i (6 * G.2.1 p + G.2.2.2 p i - 10)) = false
            · rw [if_pos h2, size_e hM2 w hp, bd_ok]
              have ha2 := areEmpty_e (n := n) hM2 w hE2 (p := p) (a := i + 1) (k := G.2.2.1 p - (i + 1)) hp (by omega) (by omega)
              rw [show i + 1 + (G.2.2.1 p - (i + 1)) = G.2.2.1 p by omega] at ha2
              rw [ha2, bd_ok]
              simp only [bI_0]
              have e3 : (tAll true G E p (6 * G.2.1 p + G.2.2.2 p i - 10) || tRow true G E p (i + 1) (6 * G.2.1 p + G.2.2.2 p i - 10)) = aE E (G.2.2.2 p) (i + 1) (G.2.2.1 p - (i + 1)) := by
                rw [eR, eQ1, decide_eq_true rfl, Bool.and_true, ← Bool.or_assoc, h2, Bool.false_or]
              by_cases h3 : aE E (G.2.2.2 p) (i + 1) (G.2.2.1 p - (i + 1)) = false
              · rw [if_pos h3]
                exact fin false (by rw [e3, h3])
              · rw [if_neg h3]
                have h3' : aE E (G.2.2.2 p) (i + 1) (G.2.2.1 p - (i + 1)) = true := by simpa using h3
                exact fin true (by rw [e3, h3'])
            · rw [if_neg h2]
              have h2' : (tAll true G E p (6 * G.2.1 p + G.2.2.2 p i - 10) || tRow true G E p i (6 * G.2.1 p + G.2.2.2 p i - 10)) = true := Bool.of_not_eq_false h2
              exact fin true (by rw [eR, ← Bool.or_assoc, h2', Bool.true_or])
      · rintro rec3 t ⟨hf, hb, hc⟩
        have hM := h.fr hf (by unfold is2; decide)
        simp (disch := omega) only [size_e hM w hp, bd_ok, le_ok, if_pos, nI_add, lt_def]
        exact ih _ ⟨hf, hb, hc⟩
    · rintro rec2 t ⟨hf, hb, hc⟩
      have hM := h.fr hf (by unfold is2; decide)
      simp (disch := omega) only [many_e hM, bd_ok, le_ok, if_pos]
      refine wp_call (closes_e hb hn) (fun _ t2 h2 => ?_)
      have hc2 : BA (t2.1 157) 36 (tAll true G E G.1) := by rw [(h2.1 157 (by decide)).1]; exact hc
      refine wp_call (closes_e hc2 hn) (fun _ t3 h3 => ?_)
      refine wp_some ⟨(hf.tr (h2.1.wk (fun q e => Or.inl e))).tr (h3.1.wk (fun q e => Or.inr e)), ?_, h3.2⟩
      rw [(h3.1 156 (by decide)).1]
      exact h2.2
