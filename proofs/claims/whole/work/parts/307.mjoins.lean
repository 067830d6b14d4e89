/-! ===== the reference: sets of words ===== -/
theorem lettersOf_e {c : Nat} (hc : c < 216) (s : PH) : fX12_lettersOf (nI c) s = some (nI (lo c), s) := by
  unfold fX12_lettersOf lo
  simp (disch := omega) only [eq0_ok, le_ok]
  by_cases h0 : c = 0
  · rw [if_pos h0, if_pos h0]
  · rw [if_neg h0, if_neg h0]
    by_cases h1 : c < 6
    · rw [if_neg (by omega), if_pos h1]
    · rw [if_pos (by omega), if_neg h1]
      by_cases h2 : c < 36
      · rw [if_neg (by omega), if_pos h2]
      · rw [if_pos (by omega), if_neg h2]
theorem power_e {k : Nat} (hk : k ≤ 3) (s : PH) : fX12_power (nI k) s = some (nI (pw k), s) := by
  unfold fX12_power pw
  simp (disch := omega) only [eq0_ok, eq_ok]
  split
  · rfl
  · split
    · rfl
    · split <;> rfl
theorem ct_le (c k : Nat) : ct c k ≤ c := by
  unfold ct
  split
  · exact Nat.div_le_self _ _
  · exact Nat.le_refl _
theorem cut_e {c k : Nat} (hc : c < 216) (hk : k ≤ 3) (s : PH) : fX12_cut (nI c) (nI k) s = some (nI (ct c k), s) := by
  have h3 := lo_le c
  unfold fX12_cut ct
  simp (disch := omega) only [lettersOf_e hc, bd_ok, lt_def, lt_ok]
  by_cases h : k < lo c
  · rw [if_pos h, if_pos h]
    have hp := pw_pos (lo c - k)
    simp (disch := omega) only [nI_subN, power_e, bd_ok, eq0_ok, if_neg, pk_div]
  · rw [if_neg h, if_neg h]
theorem jo_lt {c d : Nat} (hc : c < 216) (hd : d < 216) : jo c d < 46872 := by
  have h1 := (pw_pos (lo (ct d (3 - lo c)))).2
  have h2 := ct_le d (3 - lo c)
  unfold jo
  have : c * pw (lo (ct d (3 - lo c))) ≤ 215 * 216 := Nat.mul_le_mul (by omega) h1
  omega
theorem joined_e {c d : Nat} (hc : c < 216) (hd : d < 216) (s : PH) : fX12_joined (nI c) (nI d) s = some (nI (jo c d), s) := by
  have h3 := lo_le c
  have h4 := ct_le d (3 - lo c)
  have h5 := lo_le (ct d (3 - lo c))
  unfold fX12_joined jo
  simp (disch := omega) only [lettersOf_e hc, bd_ok, lt_def, nI_subN]
  rw [cut_e hd (by omega), bd_ok]
  simp only [lettersOf_e (show ct d (3 - lo c) < 216 by omega), bd_ok, power_e h5, nI_mulN, nI_add]
theorem begin_e {s : PH} {n : Nat} (hn : 300 ≤ n) : wp (fX12_begin n s) (fun _ t => Fr (fun q => q = 161) s t ∧ SA (t.1 161) 0 L1) := by
  unfold fX12_begin
  simp only [lt_def]
  refine wp_for2 216 (by omega) (fun j t => Fr (fun q => q = 161) s t ∧ ∀ c, c < j → t.1 161 c = if c = 0 then nI 1 else nI 0) ?_ ?_ n 0 s (by omega) ⟨Fr.rf, fun x hx => absurd hx (Nat.not_lt_zero x)⟩ (by omega)
  · rintro rec j t hj ⟨hf, hb⟩ ih
    simp (disch := omega) only [le_ok, if_neg, jn_def, eq0_ok, wa_ok, cl_ok, lt_def, nI_add, nz0, nz1]
    have fin : ∀ v : Int32, v = (if j = 0 then nI 1 else nI 0) → wp (rec (nI (j + 1)) (si t 161 j v)) (fun _ t => Fr (fun q => q = 161) s t ∧ SA (t.1 161) 0 L1) := by
      intro v ev
      refine ih _ ⟨hf.tr (Fr.si rfl), fun c hc => ?_⟩
      rw [si_q]
      dsimp only
      by_cases e : c = j
      · rw [if_pos e, ev, e]
      · rw [if_neg e]; exact hb c (by omega)
    split
    · exact fin _ (by rw [if_pos ‹_›])
    · exact fin _ (by rw [if_neg ‹_›])
  · rintro rec t ⟨hf, hb⟩
    simp (disch := omega) only [le_ok, if_pos]
    refine wp_some ⟨hf, fun c hc => ?_⟩
    rw [Nat.zero_add, hb c hc]
    by_cases e : c = 0
    · rw [if_pos e]
      exact Or.inl ⟨rfl, [], rfl, by rw [e]; rfl⟩
    · rw [if_neg e]
      exact Or.inr ⟨rfl, fun ⟨l, h1, h2⟩ => e (by rw [← h2, h1]; rfl)⟩
/-- the numbers of a set of words -/
def cd (W : WLs) (c : Nat) : Prop := ∃ l, W l ∧ enc l = c
theorem JL_cd {A B : WLs} (hA : VS A) (hB : VS B) (e : Nat) : cd (JL A B) e ↔ ∃ c d, cd A c ∧ cd B d ∧ jo c d = e := by
  constructor
  · rintro ⟨l, ⟨a, b, ha, hb, rfl⟩, rfl⟩
    exact ⟨enc a, enc b, ⟨a, ha, rfl⟩, ⟨b, hb, rfl⟩, jo_enc (hA a ha) (hB b hb)⟩
  · rintro ⟨c, d, ⟨a, ha, rfl⟩, ⟨b, hb, rfl⟩, rfl⟩
    exact ⟨_, ⟨a, b, ha, hb, rfl⟩, (jo_enc (hA a ha) (hB b hb)).symm⟩
theorem jo3 {c d : Nat} (h : lo c = 3) (hd : d < 216) : jo c d = c := by
  unfold jo
  rw [h]
  have e : ct d (3 - 3) = 0 := by
    unfold ct
    by_cases h0 : d = 0
    · subst h0; rfl
    · have h1 : lo d = 1 ∨ lo d = 2 ∨ lo d = 3 := by
        unfold lo
        rw [if_neg h0]
        split
        · exact Or.inl rfl
        · split
          · exact Or.inr (Or.inl rfl)
          · exact Or.inr (Or.inr rfl)
      rw [if_pos (by omega)]
      rcases h1 with h1 | h1 | h1
      · have : d < 6 := by
          unfold lo at h1
          rw [if_neg h0] at h1
          by_cases h2 : d < 6
          · exact h2
          · rw [if_neg h2] at h1; split at h1 <;> omega
        rw [h1]; show d / 6 = 0; omega
      · have : d < 36 := by
          unfold lo at h1
          rw [if_neg h0] at h1
          by_cases h2 : d < 6
          · omega
          · rw [if_neg h2] at h1
            by_cases h3 : d < 36
            · exact h3
            · rw [if_neg h3] at h1; omega
        rw [h1]; show d / 36 = 0; omega
      · rw [h1]; show d / 216 = 0; omega
  rw [e]
  show c * 1 + 0 = c
  omega
theorem cd_lt {W : WLs} (h : VS W) {c : Nat} (hc : cd W c) : c < 216 := by
  obtain ⟨l, hl, rfl⟩ := hc
  exact enc_lt (h l hl)
/-- a place of an array that is 1 or 0 -/
def PB (v : Int32) (P : Prop) : Prop := (v = nI 1 ∧ P) ∨ (v = nI 0 ∧ ¬ P)
theorem PB.of {v : Int32} {P Q : Prop} (h : PB v P) (e : P ↔ Q) : PB v Q := by
  rcases h with ⟨h1, h2⟩ | ⟨h1, h2⟩
  · exact Or.inl ⟨h1, e.mp h2⟩
  · exact Or.inr ⟨h1, fun z => h2 (e.mpr z)⟩
theorem PB.t {P : Prop} (h : P) : PB (nI 1) P := Or.inl ⟨rfl, h⟩
theorem PB.f {P : Prop} (h : ¬ P) : PB (nI 0) P := Or.inr ⟨rfl, h⟩
theorem PB.ne {v : Int32} {P : Prop} (h : PB v P) (hv : ¬ v = 0) : P := by
  rcases h with ⟨_, h2⟩ | ⟨h1, _⟩
  · exact h2
  · exact absurd (by rw [h1]; exact n0_0) hv
theorem PB.eq {v : Int32} {P : Prop} (h : PB v P) (hv : v = 0) : ¬ P := by
  rcases h with ⟨h1, _⟩ | ⟨_, h2⟩
  · exact absurd (by rw [← h1]; exact hv) n1_0
  · exact h2
theorem SA.pb {f : Nat → Int32} {o : Nat} {W : WLs} (h : SA f o W) {c : Nat} (hc : c < 216) : PB (f (o + c)) (cd W c) := h c hc
def is6 (q : Nat) : Prop := q = 161 ∨ q = 162
/-- what has come into 'next' when all of 'made' below c have been looked at, and of c the words below d -/
def nx (A B : WLs) (c d e : Nat) : Prop := ∃ c' d', (c' < c ∨ (c' = c ∧ d' < d)) ∧ cd A c' ∧ cd B d' ∧ jo c' d' = e
theorem joins_e {s : PH} {q nq o n : Nat} {A B : WLs} (hA : VS A) (hB : VS B) (hmade : SA (s.1 161) 0 A) (hset : SA (s.1 q) o B) (hq : ¬ is6 q) (ho : o + 216 ≤ nq) (hnq : nq ≤ 30000) (hn : 300 ≤ n) : wp (fX12_joins n q nq (nI o) s) (fun _ t => Fr is6 s t ∧ SA (t.1 161) 0 (JL A B)) := by
  unfold fX12_joins
  simp only [lt_def]
  refine wp_for3 216 (by omega) (fun j v t => Fr is6 s t ∧ t.1 161 = s.1 161 ∧ (∀ c, c < j → t.1 162 c = nI 0) ∧ PB v (∃ d, d < j ∧ cd B d)) ?_ ?_ n 0 _ s (by omega) ⟨Fr.rf, rfl, fun x hx => absurd hx (Nat.not_lt_zero x), PB.f (fun ⟨d, hd, _⟩ => absurd hd (Nat.not_lt_zero d))⟩ (by omega)
  · rintro rec j v t hj ⟨hf, hm, hb, hv⟩ ih
    simp (disch := omega) only [le_ok, if_neg, wa_ok, cl_ok, lt_def, nI_add, nz0, jn_def, ra_ok]
    have fin : ∀ v' : Int32, PB v' (∃ d, d < j + 1 ∧ cd B d) → wp (rec v' (nI (j + 1)) (si t 162 j (nI 0))) (fun _ t => Fr is6 s t ∧ SA (t.1 161) 0 (JL A B)) := by
      intro v' hv'
      refine ih _ _ ⟨hf.tr (Fr.si (Or.inr rfl)), by rw [si_r _ _ _ _ (by decide)]; exact hm, fun c hc => ?_, hv'⟩
      rw [si_q]
      dsimp only
      by_cases e : c = j
      · rw [if_pos e]
      · rw [if_neg e]; exact hb c (by omega)
    have hset' : PB ((si t 162 j (nI 0)).1 q (o + j)) (cd B j) := by
      rw [si_r _ _ _ _ (fun e => hq (Or.inr e)), (hf q hq).1]
      exact hset.pb hj
    by_cases h0 : v = 0
    · rw [if_pos h0]
      by_cases h1 : (si t 162 j (nI 0)).1 q (o + j) = 0
      · rw [if_pos h1]
        refine fin _ (PB.f (fun ⟨d, hd, hc⟩ => ?_))
        rcases Nat.lt_or_ge d j with h2 | h2
        · exact hv.eq h0 ⟨d, h2, hc⟩
        · exact hset'.eq h1 (by rw [show j = d by omega]; exact hc)
      · rw [if_neg h1]
        exact fin _ (PB.t ⟨j, by omega, hset'.ne h1⟩)
    · rw [if_neg h0]
      obtain ⟨d, hd, hc⟩ := hv.ne h0
      exact fin _ (PB.t ⟨d, by omega, hc⟩)
  · rintro rec v t ⟨hf, hm, hb, hv⟩
    simp (disch := omega) only [le_ok, if_pos]
    have hsome : (¬ v = 0) → ∃ d, cd B d := fun h => by obtain ⟨d, _, hc⟩ := hv.ne h; exact ⟨d, hc⟩
    have hnone : v = 0 → ¬ ∃ d, cd B d := fun h ⟨d, hc⟩ => hv.eq h ⟨d, cd_lt hB hc, hc⟩
    refine wp_for2 216 (by omega) (fun c t => Fr is6 s t ∧ t.1 161 = s.1 161 ∧ ∀ e, e < 216 → PB (t.1 162 e) (nx A B c 0 e)) ?_ ?_ n 0 t (by omega) ⟨hf, hm, fun e he => by rw [hb e he]; exact PB.f (fun ⟨c', d', h1, _⟩ => by omega)⟩ (by omega)
    · rintro rec2 c t hc ⟨hf, hm, hb⟩ ih
      have hmc : PB (t.1 161 c) (cd A c) := by rw [hm]; have := hmade.pb hc; rwa [Nat.zero_add] at this
      have hl3 := lo_le c
      simp (disch := omega) only [le_ok, if_neg, ra_ok, jn_def, lt_def, nI_add, lettersOf_e hc, bd_ok, eq_ok]
      have noA : ¬ cd A c → wp (rec2 (nI (c + 1)) t) (fun _ t => Fr is6 s t ∧ SA (t.1 161) 0 (JL A B)) := by
        intro hnA
        refine ih _ ⟨hf, hm, fun e he => (hb e he).of ⟨?_, ?_⟩⟩
        · rintro ⟨c', d', h1, h2⟩
          exact ⟨c', d', by omega, h2⟩
        · rintro ⟨c', d', h1, h2, h3⟩
          rcases Nat.lt_or_ge c' c with h | h
          · exact ⟨c', d', Or.inl h, h2, h3⟩
          · exact absurd (by rw [show c = c' by omega]; exact h2) hnA
      by_cases h0 : t.1 161 c = 0
      · rw [if_pos h0, if_pos h0]
        exact noA (hmc.eq h0)
      · have hAc := hmc.ne h0
        rw [if_neg h0]
        by_cases h3 : lo c = 3
        · rw [if_pos h3]
          have step3 : (∃ d, cd B d) → ∀ e, (nx A B (c + 1) 0 e ↔ nx A B c 0 e ∨ e = c) := by
            rintro ⟨d, hd⟩ e
            constructor
            · rintro ⟨c', d', h1, h2, h4, h5⟩
              rcases Nat.lt_or_ge c' c with h | h
              · exact Or.inl ⟨c', d', Or.inl h, h2, h4, h5⟩
              · have : c' = c := by omega
                subst this
                exact Or.inr (by rw [← h5, jo3 h3 (cd_lt hB h4)])
            · rintro (⟨c', d', h1, h2⟩ | rfl)
              · exact ⟨c', d', by omega, h2⟩
              · exact ⟨e, d, by omega, hAc, hd, jo3 h3 (cd_lt hB hd)⟩
          have put : ∀ x : Int32, PB x (nx A B (c + 1) 0 c) → (∀ e, e ≠ c → (nx A B (c + 1) 0 e ↔ nx A B c 0 e)) → wp (wa 216 (nI c) (rec2 (nI c + nI 1) (si t 162 (nI c).toNatClampNeg (nz x)))) (fun _ t => Fr is6 s t ∧ SA (t.1 161) 0 (JL A B)) := by
            intro x hx he
            have hnz : nz x = x := by
              rcases hx with ⟨h, _⟩ | ⟨h, _⟩ <;> rw [h]
              · exact nz1
              · exact nz0
            rw [hnz]
            simp (disch := omega) only [wa_ok, cl_ok, nI_add]
            refine ih _ ⟨hf.tr (Fr.si (Or.inr rfl)), by rw [si_r _ _ _ _ (by decide)]; exact hm, fun e he2 => ?_⟩
            rw [si_q]
            dsimp only
            by_cases e1 : e = c
            · rw [if_pos e1, e1]; exact hx
            · rw [if_neg e1]; exact (hb e he2).of (he e e1).symm
          have goal : ∀ x : Int32, PB x (nx A B (c + 1) 0 c) → (∀ e, e ≠ c → (nx A B (c + 1) 0 e ↔ nx A B c 0 e)) → wp (wa 216 (nI c) (rec2 (nI (c + 1)) (si t 162 c (nz x)))) (fun _ t => Fr is6 s t ∧ SA (t.1 161) 0 (JL A B)) := by
            intro x hx he
            have := put x hx he
            simpa only [nI_add, cl_ok (show c < 2147483648 by omega)] using this
          simp (disch := omega) only [cl_ok, wa_ok] at goal ⊢
          by_cases h5 : t.1 162 c = 0
          · rw [if_pos h5]
            by_cases h6 : v = 0
            · rw [if_pos h6]
              refine goal _ (PB.f ?_) (fun e he => ?_)
              · rintro ⟨c', d', _, _, h7, _⟩
                exact hnone h6 ⟨d', h7⟩
              · constructor
                · rintro ⟨c', d', _, _, h7, _⟩
                  exact absurd ⟨d', h7⟩ (hnone h6)
                · rintro ⟨c', d', h1, h2⟩
                  exact ⟨c', d', by omega, h2⟩
            · rw [if_neg h6]
              refine goal _ (PB.t ((step3 (hsome h6) c).mpr (Or.inr rfl))) (fun e he => (step3 (hsome h6) e).trans ⟨fun h => h.elim id (fun h => absurd h he), Or.inl⟩)
          · rw [if_neg h5]
            have h7 := (hb c hc).ne h5
            have h8 : ∃ d, cd B d := by obtain ⟨_, d', _, _, h, _⟩ := h7; exact ⟨d', h⟩
            refine goal _ (PB.t ((step3 h8 c).mpr (Or.inr rfl))) (fun e he => (step3 h8 e).trans ⟨fun h => h.elim id (fun h => absurd h he), Or.inl⟩)
        · rw [if_neg h3]
          refine wp_for2 216 (by omega) (fun d t => Fr is6 s t ∧ t.1 161 = s.1 161 ∧ ∀ e, e < 216 → PB (t.1 162 e) (nx A B c d e)) ?_ ?_ n 0 t (by omega) ⟨hf, hm, hb⟩ (by omega)
          · rintro rec3 d t hd ⟨hf, hm, hb⟩ ih3
            have hsd : PB (t.1 q (o + d)) (cd B d) := by rw [(hf q hq).1]; exact hset.pb hd
            simp (disch := omega) only [le_ok, if_neg, nI_add, ra_ok, jn_def, lt_def]
            by_cases h5 : t.1 q (o + d) = 0
            · rw [if_pos h5]
              refine ih3 _ ⟨hf, hm, fun e he => (hb e he).of ⟨?_, ?_⟩⟩
              · rintro ⟨c', d', h1, h2⟩
                exact ⟨c', d', by omega, h2⟩
              · rintro ⟨c', d', h1, h2, h4, h6⟩
                refine ⟨c', d', ?_, h2, h4, h6⟩
                rcases h1 with h1 | ⟨h1, h7⟩
                · exact Or.inl h1
                · rcases Nat.lt_or_ge d' d with h8 | h8
                  · exact Or.inr ⟨h1, h8⟩
                  · exact absurd (by rw [show d = d' by omega]; exact h4) (hsd.eq h5)
            · rw [if_neg h5]
              have hBd := hsd.ne h5
              have hj : jo c d < 216 := cd_lt (JL.vs hA hB) ((JL_cd hA hB _).mpr ⟨c, d, hAc, hBd, rfl⟩)
              simp (disch := omega) only [joined_e hc hd, bd_ok, wa_ok, cl_ok, nz1]
              refine ih3 _ ⟨hf.tr (Fr.si (Or.inr rfl)), by rw [si_r _ _ _ _ (by decide)]; exact hm, fun e he => ?_⟩
              rw [si_q]
              dsimp only
              by_cases e1 : e = jo c d
              · rw [if_pos e1]
                exact PB.t ⟨c, d, by omega, hAc, hBd, e1.symm⟩
              · rw [if_neg e1]
                refine (hb e he).of ⟨?_, ?_⟩
                · rintro ⟨c', d', h1, h2⟩
                  exact ⟨c', d', by omega, h2⟩
                · rintro ⟨c', d', h1, h2, h4, h6⟩
                  refine ⟨c', d', ?_, h2, h4, h6⟩
                  rcases h1 with h1 | ⟨h1, h7⟩
                  · exact Or.inl h1
                  · rcases Nat.lt_or_ge d' d with h8 | h8
                    · exact Or.inr ⟨h1, h8⟩
                    · exact absurd (by rw [← h6, h1, show d' = d by omega]) e1
          · rintro rec3 t ⟨hf, hm, hb⟩
            simp (disch := omega) only [le_ok, if_pos]
            refine ih _ ⟨hf, hm, fun e he => (hb e he).of ⟨?_, ?_⟩⟩
            · rintro ⟨c', d', h1, h2⟩
              exact ⟨c', d', by omega, h2⟩
            · rintro ⟨c', d', h1, h2, h4, h6⟩
              have := cd_lt hB h4
              exact ⟨c', d', by omega, h2, h4, h6⟩
    · rintro rec2 t ⟨hf, hm, hb⟩
      simp (disch := omega) only [le_ok, if_pos]
      have hb' : ∀ e, e < 216 → PB (t.1 162 e) (cd (JL A B) e) := fun e he => (hb e he).of (by
        rw [JL_cd hA hB]
        constructor
        · rintro ⟨c', d', _, h2⟩
          exact ⟨c', d', h2⟩
        · rintro ⟨c', d', h2, h3⟩
          exact ⟨c', d', Or.inl (cd_lt hA h2), h2, h3⟩)
      refine wp_for2 216 (by omega) (fun j t' => Fr is6 s t' ∧ t'.1 162 = t.1 162 ∧ ∀ e, e < j → t'.1 161 e = t.1 162 e) ?_ ?_ n 0 t (by omega) ⟨hf, rfl, fun x hx => absurd hx (Nat.not_lt_zero x)⟩ (by omega)
      · rintro rec3 j t' hj ⟨hf', hm', hc'⟩ ih3
        have hnz : nz (t'.1 162 j) = t'.1 162 j := by
          rw [hm']
          rcases hb' j hj with ⟨h, _⟩ | ⟨h, _⟩ <;> rw [h]
          · exact nz1
          · exact nz0
        simp (disch := omega) only [le_ok, if_neg, ra_ok, hnz, wa_ok, cl_ok, lt_def, nI_add]
        refine ih3 _ ⟨hf'.tr (Fr.si (Or.inl rfl)), by rw [si_r _ _ _ _ (by decide)]; exact hm', fun e he => ?_⟩
        rw [si_q]
        dsimp only
        by_cases e1 : e = j
        · rw [if_pos e1, hm', e1]
        · rw [if_neg e1]; exact hc' e (by omega)
      · rintro rec3 t' ⟨hf', hm', hc'⟩
        simp (disch := omega) only [le_ok, if_pos]
        refine wp_some ⟨hf', fun c hc => ?_⟩
        rw [Nat.zero_add, hc' c hc]
        exact hb' c hc
