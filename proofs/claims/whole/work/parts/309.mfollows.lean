/-! ===== the reference: following words, words ahead ===== -/
def oW (G : Gr) (F O : Nat → WLs) (p i : Nat) : WLs := JL (sqL F (G.2.2.2 p) L1 (i + 1) (G.2.2.1 p - (i + 1))) (O (G.2.1 p))
def OC (G : Gr) (F O : Nat → WLs) : Prop := O (G.2.1 0) [] ∧ ∀ p i, p < G.1 → i < G.2.2.1 p → 10 ≤ G.2.2.2 p i → ∀ l, oW G F O p i l → O (G.2.2.2 p i - 10) l
def OOK (G : Gr) (F O : Nat → WLs) : Prop := (∀ x, VS (O x)) ∧ OC G F O ∧ ∀ O', OC G F O' → ∀ x l, O x l → O' x l
theorem OOK.uniq {G : Gr} {F O O' : Nat → WLs} (h : OOK G F O) (h' : OOK G F O') : O = O' := by
  funext x l
  exact propext ⟨fun z => h.2.2 O' h'.2.1 x l z, fun z => h'.2.2 O h.2.1 x l z⟩
def isQ (q : Nat) : Prop := q = 159 ∨ is7 q
theorem laysFollows_e {G : Gr} {s : PH} {F : Nat → WLs} (h : MG G (s.1 149)) (w : WG G) (hF : FOK G F) (h158 : S6 (s.1 158) F) (hz : ∀ c, c < 216 → s.1 163 c = nI 0) {n : Nat} (hn : 2000 ≤ n) : wp (fX12_laysFollows n s) (fun _ t => Fr isQ s t ∧ (∀ c, c < 216 → t.1 163 c = nI 0) ∧ ∃ O, S6 (t.1 159) O ∧ OOK G F O) := by
  have h16 := w.1.2
  have h06 := (w.2.1 0 w.1.1).1
  unfold fX12_laysFollows
  simp only [lt_def]
  refine wp_for2 1296 (by omega) (fun j t => Fr isQ s t ∧ (∀ k, k < j → t.1 159 k = if k = 216 * G.2.1 0 then nI 1 else nI 0) ∧ ∀ c, c < 216 → t.1 163 c = nI 0) ?_ ?_ n 0 s (by omega) ⟨Fr.rf, fun x hx => absurd hx (Nat.not_lt_zero x), hz⟩ (by omega)
  · rintro rec j t hj ⟨hf, hb, hz⟩ ih
    have hM := h.fr hf (by unfold isQ is7; decide)
    simp (disch := omega) only [le_ok, if_neg, start_e hM w, bd_ok, jn_def, nI_mulN, eq_ok, wa_ok, cl_ok, lt_def, nI_add, nz0, nz1]
    have fin : ∀ v : Int32, v = (if j = 216 * G.2.1 0 then nI 1 else nI 0) → wp (rec (nI (j + 1)) (si t 159 j v)) (fun _ t => Fr isQ s t ∧ (∀ c, c < 216 → t.1 163 c = nI 0) ∧ ∃ O, S6 (t.1 159) O ∧ OOK G F O) := by
      intro v ev
      refine ih _ ⟨hf.tr (Fr.si (Or.inl rfl)), fun k hk => ?_, by rw [si_r _ _ _ _ (by decide)]; exact hz⟩
      rw [si_q]
      dsimp only
      by_cases e : k = j
      · rw [if_pos e, ev, e]
      · rw [if_neg e]; exact hb k (by omega)
    split
    · exact fin _ (by rw [if_pos ‹_›])
    · exact fin _ (by rw [if_neg ‹_›])
  · rintro rec t ⟨hf, hb, hz⟩
    simp (disch := omega) only [le_ok, if_pos]
    refine wp_loo2 (fun v t => (Fr isQ s t ∧ (∀ c, c < 216 → t.1 163 c = nI 0) ∧ ∃ O, (S6 (t.1 159) O ∧ (∀ x, VS (O x)) ∧ (∀ O', OC G F O' → ∀ x l, O x l → O' x l) ∧ O (G.2.1 0) [] ∧ PB v True)) ∨ (v = 0 ∧ Fr isQ s t ∧ (∀ c, c < 216 → t.1 163 c = nI 0) ∧ ∃ O, S6 (t.1 159) O ∧ OOK G F O)) (fun v t => if v = 0 then 0 else 1 + zc (t.1 159) 1296) ?_ n _ t ?_ ?_
    · rintro rec2 v t hI ih
      by_cases h0 : v = 0
      · rw [if_pos h0]
        rcases hI with ⟨_, _, O, _, _, _, _, hv⟩ | ⟨_, h1⟩
        · exact absurd trivial (hv.eq h0)
        · exact wp_some h1
      · rw [if_neg h0]
        rcases hI.symm with ⟨h1, _⟩ | ⟨hf, hz, O, hO6, hOv, hOl, hOs, hv⟩
        · exact absurd h1 h0
        refine wp_for3 G.1 (by omega) (fun p v t' => Fr isQ s t' ∧ (∀ c, c < 216 → t'.1 163 c = nI 0) ∧ ∃ O', S6 (t'.1 159) O' ∧ (∀ x, VS (O' x)) ∧ (∀ O'', OC G F O'' → ∀ x l, O' x l → O'' x l) ∧ O' (G.2.1 0) [] ∧ (∀ k, k < 1296 → t'.1 159 k = 0 → t.1 159 k = 0) ∧ PB v (∃ k, k < 1296 ∧ t.1 159 k = 0 ∧ ¬ t'.1 159 k = 0) ∧ (v = 0 → ∀ p' i', p' < p → i' < G.2.2.1 p' → 10 ≤ G.2.2.2 p' i' → ∀ l, oW G F O' p' i' l → O' (G.2.2.2 p' i' - 10) l)) ?_ ?_ n 0 _ t (by omega) ⟨hf, hz, O, hO6, hOv, hOl, hOs, fun _ _ h => h, PB.f (fun ⟨k, _, h1, h2⟩ => h2 h1), fun _ p' i' hp' => absurd hp' (Nat.not_lt_zero p')⟩ (by omega)
        · rintro rec3 p v1 t1 hp ⟨hf1, hz1, O1, hO61, hOv1, hOl1, hOs1, hgr1, hv1, hcl1⟩ ih3
          have hM1 := h.fr hf1 (by unfold isQ is7; decide)
          have h6 := (w.2.1 p hp).1
          have h5 := (w.2.1 p hp).2
          simp (disch := omega) only [many_e hM1, bd_ok, le_ok, if_neg]
          refine wp_for3 (G.2.2.1 p) (by omega) (fun i v t' => Fr isQ s t' ∧ (∀ c, c < 216 → t'.1 163 c = nI 0) ∧ ∃ O', S6 (t'.1 159) O' ∧ (∀ x, VS (O' x)) ∧ (∀ O'', OC G F O'' → ∀ x l, O' x l → O'' x l) ∧ O' (G.2.1 0) [] ∧ (∀ k, k < 1296 → t'.1 159 k = 0 → t.1 159 k = 0) ∧ PB v (∃ k, k < 1296 ∧ t.1 159 k = 0 ∧ ¬ t'.1 159 k = 0) ∧ (v = 0 → ∀ p' i', (p' < p ∨ (p' = p ∧ i' < i)) → i' < G.2.2.1 p' → 10 ≤ G.2.2.2 p' i' → ∀ l, oW G F O' p' i' l → O' (G.2.2.2 p' i' - 10) l)) ?_ ?_ n 0 _ t1 (by omega) ⟨hf1, hz1, O1, hO61, hOv1, hOl1, hOs1, hgr1, hv1, fun hv p' i' hp' => hcl1 hv p' i' (by omega)⟩ (by omega)
          · rintro rec4 i v' t' hi ⟨hf', hz', O', hO6', hOv', hOl', hOs', hgr, hv', hcl⟩ ih4
            have hM' := h.fr hf' (by unfold isQ is7; decide)
            have hy := sy16 w hp hi
            simp (disch := omega) only [size_e hM' w hp, bd_ok, le_ok, if_neg, at_e hM' w hp hi, jn_def, lt_def, nI_add, lt_ok]
            by_cases hc : G.2.2.2 p i < 10
            · rw [if_pos hc]
              refine ih4 _ _ ⟨hf', hz', O', hO6', hOv', hOl', hOs', hgr, hv', fun hv p' i' hp' hi' h10 => ?_⟩
              by_cases e : p' < p ∨ (p' = p ∧ i' < i)
              · exact hcl hv p' i' e hi' h10
              · have e1 : p' = p := by omega
                have e2 : i' = i := by omega
                subst e1; subst e2
                omega
            · rw [if_neg hc]
              refine wp_call (begin_e (by omega)) (fun _ t2 h2 => ?_)
              have hf2 : Fr isQ s t2 := hf'.tr (h2.1.wk (fun q e => Or.inr (Or.inl e)))
              have hM2 := h.fr hf2 (by unfold isQ is7; decide)
              have e158 : t2.1 158 = s.1 158 := (hf2 158 (by unfold isQ is7; decide)).1
              have e163 : t2.1 163 = t'.1 163 := (h2.1 163 (by decide)).1
              refine wp_call (joinsSymbols_e (n := n) (a := i + 1) hM2 w hF.1 L1.vs h2.2 (by rw [e158]; exact h158) (by rw [e163]; exact hz') hp (by omega) (by omega)) (fun _ t3 h3 => ?_)
              have hf3 : Fr isQ s t3 := hf2.tr (h3.1.wk (fun q e => Or.inr e))
              have hM3 := h.fr hf3 (by unfold isQ is7; decide)
              have e159 : t3.1 159 = t'.1 159 := by rw [(h3.1 159 (by unfold is7; decide)).1, (h2.1 159 (by decide)).1]
              simp (disch := omega) only [left_e hM3 w hp, bd_ok, nI_mulN]
              have hvL : VS (sqL F (G.2.2.2 p) L1 (i + 1) (G.2.2.1 p - (i + 1))) := sqL.vs w hF.1 L1.vs hp _ (by omega)
              refine wp_call (joins_e (n := n) (q := 159) (nq := 1296) (o := 216 * G.2.1 p) hvL (hOv' _) h3.2.1 (by rw [e159]; exact hO6' _ h6) (by unfold is6; decide) (by omega) (by omega) (by omega)) (fun _ t4 h4 => ?_)
              have hf4 : Fr isQ s t4 := hf3.tr (h4.1.wk (fun q e => Or.inr (e.elim Or.inl (fun e => Or.inr (Or.inl e)))))
              have hM4 := h.fr hf4 (by unfold isQ is7; decide)
              have e159b : t4.1 159 = t'.1 159 := by rw [(h4.1 159 (by unfold is6; decide)).1, e159]
              have e163b : t4.1 163 = t3.1 163 := (h4.1 163 (by unfold is6; decide)).1
              simp (disch := omega) only [at_e hM4 w hp hi, bd_ok, nI_subN, nI_mulN]
              have hx6 : G.2.2.2 p i - 10 < 6 := by omega
              refine wp_call (enters_e (n := n) (q := 159) (nq := 1296) (o := 216 * (G.2.2.2 p i - 10)) (A := oW G F O' p i) (S := O' (G.2.2.2 p i - 10)) h4.2 (by rw [e159b]; exact hO6' _ hx6) (by decide) (by omega) (by omega) (by omega)) (fun r t5 h5' => ?_)
              obtain ⟨hf5, ho5, hs5, hr5⟩ := h5'
              have hvW : VS (oW G F O' p i) := JL.vs hvL (hOv' _)
              have hN6 : S6 (t5.1 159) (fun x => if x = G.2.2.2 p i - 10 then uS (O' x) (oW G F O' p i) else O' x) := by
                intro x hx
                dsimp only
                by_cases e : x = G.2.2.2 p i - 10
                · rw [if_pos e, e]; exact hs5
                · rw [if_neg e]
                  intro c hc
                  rw [ho5 _ (by omega), e159b]
                  exact hO6' x hx c hc
              have hNv : ∀ x, VS ((fun x => if x = G.2.2.2 p i - 10 then uS (O' x) (oW G F O' p i) else O' x) x) := by
                intro x l hl
                try dsimp only at hl
                by_cases e : x = G.2.2.2 p i - 10
                · rw [if_pos e] at hl
                  rcases hl with hl | hl
                  · exact hOv' _ _ hl
                  · exact hvW _ hl
                · rw [if_neg e] at hl; exact hOv' _ _ hl
              have hNl : ∀ O'', OC G F O'' → ∀ x l, (fun x => if x = G.2.2.2 p i - 10 then uS (O' x) (oW G F O' p i) else O' x) x l → O'' x l := by
                intro O'' hC x l hl
                try dsimp only at hl
                by_cases e : x = G.2.2.2 p i - 10
                · rw [if_pos e] at hl
                  rcases hl with hl | hl
                  · exact hOl' O'' hC _ _ hl
                  · rw [e]
                    exact hC.2 p i hp hi (by omega) l (JL.mono (fun _ h => h) (fun l hl => hOl' O'' hC _ l hl) l hl)
                · rw [if_neg e] at hl; exact hOl' O'' hC _ _ hl
              have hNs : (fun x => if x = G.2.2.2 p i - 10 then uS (O' x) (oW G F O' p i) else O' x) (G.2.1 0) [] := by
                dsimp only
                split
                · exact Or.inl hOs'
                · exact hOs'
              have hmono : ∀ k, k < 1296 → t5.1 159 k = 0 → t'.1 159 k = 0 := by
                intro k hk hk0
                by_cases e : 216 * (G.2.2.2 p i - 10) ≤ k ∧ k < 216 * (G.2.2.2 p i - 10) + 216
                · have h4' := (hs5.pb (c := k - 216 * (G.2.2.2 p i - 10)) (by omega))
                  rw [show 216 * (G.2.2.2 p i - 10) + (k - 216 * (G.2.2.2 p i - 10)) = k by omega] at h4'
                  have h5'' := (hO6' _ hx6).pb (c := k - 216 * (G.2.2.2 p i - 10)) (by omega)
                  rw [show 216 * (G.2.2.2 p i - 10) + (k - 216 * (G.2.2.2 p i - 10)) = k by omega] at h5''
                  rcases h5'' with ⟨_, h7⟩ | ⟨h7, _⟩
                  · exact absurd (uS_cd.mpr (Or.inl h7)) (h4'.eq hk0)
                  · rw [h7]; exact n0_0
                · rw [ho5 k (by omega), e159b] at hk0; exact hk0
              have hgr5 : ∀ k, k < 1296 → t5.1 159 k = 0 → t.1 159 k = 0 := fun k hk h0 => hgr k hk (hmono k hk h0)
              have hf5' : Fr isQ s t5 := hf4.tr (hf5.wk (fun q e => Or.inl e))
              have hz5 : ∀ c, c < 216 → t5.1 163 c = nI 0 := by rw [(hf5 163 (by decide)).1, e163b]; exact h3.2.2
              have yes : (∃ k, k < 1296 ∧ t.1 159 k = 0 ∧ ¬ t5.1 159 k = 0) → wp (rec4 (nI 1) (nI (i + 1)) t5) (fun _ t => Fr isQ s t ∧ (∀ c, c < 216 → t.1 163 c = nI 0) ∧ ∃ O, S6 (t.1 159) O ∧ OOK G F O) := fun hex =>
                ih4 _ _ ⟨hf5', hz5, _, hN6, hNv, hNl, hNs, hgr5, PB.t hex, fun h => absurd h n1_0⟩
              by_cases hr0 : r = 0
              · rw [if_pos hr0]
                have hno := hr5.eq hr0
                have hsub : ∀ l, oW G F O' p i l → O' (G.2.2.2 p i - 10) l := by
                  intro l hl
                  refine Classical.byContradiction (fun hn => hno ⟨enc l, enc_lt (hvW l hl), ⟨l, hl, rfl⟩, fun ⟨l', h1', h2'⟩ => hn ?_⟩)
                  rw [← enc_inj (hOv' _ _ h1') (hvW l hl) h2']
                  exact h1'
                by_cases hv0 : v' = 0
                · rw [if_pos hv0]
                  have eF : (fun x => if x = G.2.2.2 p i - 10 then uS (O' x) (oW G F O' p i) else O' x) = O' := by
                    funext x
                    by_cases e : x = G.2.2.2 p i - 10
                    · rw [if_pos e]
                      funext l
                      exact propext ⟨fun h => h.elim id (fun h => by rw [e]; exact hsub l h), Or.inl⟩
                    · rw [if_neg e]
                  rw [eF] at hN6
                  refine ih4 _ _ ⟨hf5', hz5, O', hN6, hOv', hOl', hOs', hgr5, PB.f (fun ⟨k, hk, ha, hb'⟩ => ?_), fun _ p' i' hp' hi' h10 => ?_⟩
                  · refine hv'.eq hv0 ⟨k, hk, ha, fun h0 => hb' ?_⟩
                    by_cases e : 216 * (G.2.2.2 p i - 10) ≤ k ∧ k < 216 * (G.2.2.2 p i - 10) + 216
                    · have h4' := (hN6 _ hx6).pb (c := k - 216 * (G.2.2.2 p i - 10)) (by omega)
                      rw [show 216 * (G.2.2.2 p i - 10) + (k - 216 * (G.2.2.2 p i - 10)) = k by omega] at h4'
                      have h5'' := (hO6' _ hx6).pb (c := k - 216 * (G.2.2.2 p i - 10)) (by omega)
                      rw [show 216 * (G.2.2.2 p i - 10) + (k - 216 * (G.2.2.2 p i - 10)) = k by omega] at h5''
                      rcases h4' with ⟨_, h7⟩ | ⟨h7, _⟩
                      · exact absurd h7 (h5''.eq h0)
                      · rw [h7]; exact n0_0
                    · rw [ho5 k (by omega), e159b]; exact h0
                  · by_cases e : p' < p ∨ (p' = p ∧ i' < i)
                    · exact hcl hv0 p' i' e hi' h10
                    · have e1 : p' = p := by omega
                      have e2 : i' = i := by omega
                      subst e1; subst e2
                      exact hsub
                · rw [if_neg hv0]
                  obtain ⟨k, hk, ha, hb'⟩ := hv'.ne hv0
                  exact yes ⟨k, hk, ha, fun h0 => hb' (hmono k hk h0)⟩
              · rw [if_neg hr0]
                obtain ⟨c, hc2, hcA, hcS⟩ := hr5.ne hr0
                have h4' := hs5.pb hc2
                have h5'' := (hO6' _ hx6).pb hc2
                refine yes ⟨216 * (G.2.2.2 p i - 10) + c, by omega, hgr _ (by omega) ?_, fun h0 => ?_⟩
                · rcases h5'' with ⟨_, h7⟩ | ⟨h7, _⟩
                  · exact absurd h7 hcS
                  · rw [h7]; exact n0_0
                · exact h4'.eq h0 (uS_cd.mpr (Or.inr hcA))
          · rintro rec4 v' t' ⟨hf', hz', O', hO6', hOv', hOl', hOs', hgr, hv', hcl⟩
            have hM' := h.fr hf' (by unfold isQ is7; decide)
            simp (disch := omega) only [size_e hM' w hp, bd_ok, le_ok, if_pos, lt_def, nI_add]
            refine ih3 _ _ ⟨hf', hz', O', hO6', hOv', hOl', hOs', hgr, hv', fun hv p' i' hp' hi' => hcl hv p' i' ?_ hi'⟩
            rcases Nat.lt_or_ge p' p with h1 | h1
            · exact Or.inl h1
            · have : p' = p := by omega
              subst this
              exact Or.inr ⟨rfl, hi'⟩
        · rintro rec3 v' t' ⟨hf', hz', O', hO6', hOv', hOl', hOs', hgr, hv', hcl⟩
          have hM' := h.fr hf' (by unfold isQ is7; decide)
          simp (disch := omega) only [many_e hM', bd_ok, le_ok, if_pos]
          by_cases hv0 : v' = 0
          · refine ih _ _ (Or.inr ⟨hv0, hf', hz', O', hO6', hOv', ⟨hOs', fun p i hp => hcl hv0 p i hp⟩, hOl'⟩) ?_
            rw [if_pos hv0, if_neg h0]; omega
          · refine ih _ _ (Or.inl ⟨hf', hz', O', hO6', hOv', hOl', hOs', ?_⟩) ?_
            · rcases hv' with ⟨e, _⟩ | ⟨e, _⟩
              · rw [e]; exact PB.t trivial
              · exact absurd (by rw [e]; exact n0_0) hv0
            · rw [if_neg hv0, if_neg h0]
              have := zc_lt 1296 hgr (hv'.ne hv0)
              omega
    · refine Or.inl ⟨hf, hz, fun x l => x = G.2.1 0 ∧ l = [], fun x hx c hc => ?_, fun x l h1 => by rw [h1.2]; exact VL.nil, fun O' hC x l h1 => by rw [h1.1, h1.2]; exact hC.1, ⟨rfl, rfl⟩, PB.t trivial⟩
      rw [hb _ (by omega)]
      by_cases e : 216 * x + c = 216 * G.2.1 0
      · rw [if_pos e]
        exact Or.inl ⟨rfl, [], ⟨by omega, rfl⟩, by show 0 = c; omega⟩
      · rw [if_neg e]
        refine Or.inr ⟨rfl, fun ⟨l, h1, h2⟩ => e ?_⟩
        rw [h1.2] at h2
        have h3 : 0 = c := h2
        rw [h1.1, ← h3]
        rfl
    · rw [if_neg n1_0]
      have := zc_n (t.1 159) 1296
      omega
/-- words ahead of a production -/
def aW (G : Gr) (F O : Nat → WLs) (p : Nat) : WLs := JL (pW G F p) (O (G.2.1 p))
def isA (q : Nat) : Prop := q = 160 ∨ is7 q
/-- the sixteen sets of words ahead -/
def S16 (f : Nat → Int32) (N : Nat) (A : Nat → WLs) : Prop := ∀ p, p < 16 → SA f (216 * p) (if p < N then A p else fun _ => False)
theorem laysAheads_e {G : Gr} {s : PH} {F O : Nat → WLs} (h : MG G (s.1 149)) (w : WG G) (hF : FOK G F) (hO : OOK G F O) (h158 : S6 (s.1 158) F) (h159 : S6 (s.1 159) O) (hz : ∀ c, c < 216 → s.1 163 c = nI 0) {n : Nat} (hn : 4000 ≤ n) : wp (fX12_laysAheads n s) (fun _ t => Fr isA s t ∧ (∀ c, c < 216 → t.1 163 c = nI 0) ∧ S16 (t.1 160) G.1 (aW G F O)) := by
  have h16 := w.1.2
  unfold fX12_laysAheads
  simp only [lt_def]
  refine wp_for2 3456 (by omega) (fun j t => Fr isA s t ∧ (∀ k, k < j → t.1 160 k = nI 0) ∧ ∀ c, c < 216 → t.1 163 c = nI 0) ?_ ?_ n 0 s (by omega) ⟨Fr.rf, fun x hx => absurd hx (Nat.not_lt_zero x), hz⟩ (by omega)
  · rintro rec j t hj ⟨hf, hb, hz⟩ ih
    simp (disch := omega) only [le_ok, if_neg, wa_ok, cl_ok, lt_def, nI_add, nz0]
    refine ih _ ⟨hf.tr (Fr.si (Or.inl rfl)), fun k hk => ?_, by rw [si_r _ _ _ _ (by decide)]; exact hz⟩
    rw [si_q]
    dsimp only
    by_cases e : k = j
    · rw [if_pos e]
    · rw [if_neg e]; exact hb k (by omega)
  · rintro rec t ⟨hf, hb, hz⟩
    simp (disch := omega) only [le_ok, if_pos]
    refine wp_for2 G.1 (by omega) (fun p t => Fr isA s t ∧ (∀ c, c < 216 → t.1 163 c = nI 0) ∧ S16 (t.1 160) p (aW G F O)) ?_ ?_ n 0 t (by omega) ⟨hf, hz, fun p hp c hc => Or.inr ⟨hb _ (by omega), fun ⟨l, h1, _⟩ => by rw [if_neg (Nat.not_lt_zero p)] at h1; exact h1⟩⟩ (by omega)
    · rintro rec2 p t hp ⟨hf, hz, hA⟩ ih
      have hM := h.fr hf (by unfold isA is7; decide)
      have h6 := (w.2.1 p hp).1
      simp (disch := omega) only [many_e hM, bd_ok, le_ok, if_neg]
      refine wp_call (begin_e (by omega)) (fun _ t2 h2 => ?_)
      have hf2 : Fr isA s t2 := hf.tr (h2.1.wk (fun q e => Or.inr (Or.inl e)))
      have hM2 := h.fr hf2 (by unfold isA is7; decide)
      have e158 : t2.1 158 = s.1 158 := (hf2 158 (by unfold isA is7; decide)).1
      have e163 : t2.1 163 = t.1 163 := (h2.1 163 (by decide)).1
      refine wp_call (joinsSymbols_e (n := n) (a := 0) hM2 w hF.1 L1.vs h2.2 (by rw [e158]; exact h158) (by rw [e163]; exact hz) hp (by omega) (by omega)) (fun _ t3 h3 => ?_)
      rw [Nat.sub_zero] at h3
      have hf3 : Fr isA s t3 := hf2.tr (h3.1.wk (fun q e => Or.inr e))
      have hM3 := h.fr hf3 (by unfold isA is7; decide)
      have e159 : t3.1 159 = s.1 159 := (hf3 159 (by unfold isA is7; decide)).1
      simp (disch := omega) only [left_e hM3 w hp, bd_ok, nI_mulN]
      have hvL : VS (pW G F p) := sqL.vs w hF.1 L1.vs hp (a := 0) _ (by omega)
      refine wp_call (joins_e (n := n) (q := 159) (nq := 1296) (o := 216 * G.2.1 p) hvL (hO.1 _) h3.2.1 (by rw [e159]; exact h159 _ h6) (by unfold is6; decide) (by omega) (by omega) (by omega)) (fun _ t4 h4 => ?_)
      have hf4 : Fr isA s t4 := hf3.tr (h4.1.wk (fun q e => Or.inr (e.elim Or.inl (fun e => Or.inr (Or.inl e)))))
      have e160 : t4.1 160 = t.1 160 := by rw [(h4.1 160 (by unfold is6; decide)).1, (h3.1 160 (by unfold is7; decide)).1, (h2.1 160 (by decide)).1]
      have hAp : SA (t4.1 160) (216 * p) (fun _ => False) := by
        have := hA p (by omega)
        rw [if_neg (Nat.lt_irrefl p)] at this
        rw [e160]
        exact this
      refine wp_call (enters_e (n := n) (q := 160) (nq := 3456) (o := 216 * p) (A := aW G F O p) (S := fun _ => False) h4.2 hAp (by decide) (by omega) (by omega) (by omega)) (fun r t5 h5 => ?_)
      obtain ⟨hf5, ho5, hs5, _⟩ := h5
      simp (disch := omega) only [lt_def, nI_add]
      refine ih _ ⟨hf4.tr (hf5.wk (fun q e => Or.inl e)), ?_, fun p' hp' => ?_⟩
      · rw [(hf5 163 (by decide)).1, (h4.1 163 (by unfold is6; decide)).1]; exact h3.2.2
      · by_cases e : p' = p
        · subst e
          rw [if_pos (Nat.lt_succ_self p')]
          refine SA.ext hs5 (fun c hc => ?_)
          constructor
          · rintro ⟨l, h1 | h1, h2'⟩
            · exact h1.elim
            · exact ⟨l, h1, h2'⟩
          · rintro ⟨l, h1, h2'⟩
            exact ⟨l, Or.inr h1, h2'⟩
        · have h7 := hA p' hp'
          intro c hc
          rw [ho5 _ (by omega), e160]
          have h8 := h7 c hc
          by_cases e2 : p' < p
          · rw [if_pos e2] at h8
            rw [if_pos (by omega)]
            exact h8
          · rw [if_neg e2] at h8
            rw [if_neg (by omega)]
            exact h8
    · rintro rec2 t ⟨hf, hz, hA⟩
      have hM := h.fr hf (by unfold isA is7; decide)
      simp (disch := omega) only [many_e hM, bd_ok, le_ok, if_pos]
      exact wp_some ⟨hf, hz, hA⟩
