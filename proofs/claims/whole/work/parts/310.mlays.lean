/-! ===== the reference: all that lays() finds ===== -/
/-- first and following words, words ahead, of a grammar -/
def FG (G : Gr) : Nat → WLs := fun x l => ∀ F, FC G F → F x l
def OG (G : Gr) : Nat → WLs := fun x l => ∀ O, OC G (FG G) O → O x l
def AG (G : Gr) (p : Nat) : WLs := aW G (FG G) (OG G) p
theorem FOK.eq {G : Gr} {F : Nat → WLs} (h : FOK G F) : F = FG G := by
  funext x l
  exact propext ⟨fun z F' hC => h.2.2 F' hC x l z, fun z => z F h.2.1⟩
theorem OOK.eq {G : Gr} {O : Nat → WLs} (h : OOK G (FG G) O) : O = OG G := by
  funext x l
  exact propext ⟨fun z O' hC => h.2.2 O' hC x l z, fun z => z O h.2.1⟩
/-- the 28 sets, as the reference numbers them -/
def zS (G : Gr) (z : Nat) : WLs := if z < 6 then FG G z else if z < 12 then OG G (z - 6) else if z - 12 < G.1 then AG G (z - 12) else fun _ => False
def ctS (k : Nat) (W : WLs) : WLs := fun l => ∃ a, W a ∧ l = a.take k
/-- the sets, cut to 0 to 3 letters -/
def BY (G : Gr) (f : Nat → Int32) : Prop := ∀ k z, k < 4 → z < 28 → SA f (6048 * k + 216 * z) (ctS k (zS G z))
theorem ctS_cd {W : WLs} (hW : VS W) (k c : Nat) : cd (ctS k W) c ↔ ∃ d, cd W d ∧ ct d k = c := by
  constructor
  · rintro ⟨l, ⟨a, ha, rfl⟩, rfl⟩
    exact ⟨enc a, ⟨a, ha, rfl⟩, ct_enc (hW a ha) k⟩
  · rintro ⟨d, ⟨a, ha, rfl⟩, rfl⟩
    exact ⟨a.take k, ⟨a, ha, rfl⟩, (ct_enc (hW a ha) k).symm⟩
/-- what lies in cell q when the pairs (k, at) below have been looked at -/
def cq (G : Gr) (k a m : Nat) : Prop := ∃ k' a', (k' < k ∨ (k' = k ∧ a' < a)) ∧ a' < 6048 ∧ cd (zS G (a' / 216)) (a' % 216) ∧ m = 6048 * k' + 216 * (a' / 216) + ct (a' % 216) k'
theorem cuts_e {G : Gr} {s : PH} (hv : ∀ z, VS (zS G z)) (h158 : S6 (s.1 158) (FG G)) (h159 : S6 (s.1 159) (OG G)) (h160 : S16 (s.1 160) G.1 (AG G)) {n : Nat} (hn : 30000 ≤ n) : wp (fX12_cuts n s) (fun _ t => Fr (fun q => q = 164) s t ∧ BY G (t.1 164)) := by
  unfold fX12_cuts
  simp only [lt_def]
  refine wp_for2 24192 (by omega) (fun j t => Fr (fun q => q = 164) s t ∧ ∀ k, k < j → t.1 164 k = nI 0) ?_ ?_ n 0 s (by omega) ⟨Fr.rf, fun x hx => absurd hx (Nat.not_lt_zero x)⟩ (by omega)
  · rintro rec j t hj ⟨hf, hb⟩ ih
    simp (disch := omega) only [le_ok, if_neg, wa_ok, cl_ok, lt_def, nI_add, nz0]
    refine ih _ ⟨hf.tr (Fr.si rfl), fun k hk => ?_⟩
    rw [si_q]
    dsimp only
    by_cases e : k = j
    · rw [if_pos e]
    · rw [if_neg e]; exact hb k (by omega)
  · rintro rec t ⟨hf, hb⟩
    simp (disch := omega) only [le_ok, if_pos]
    refine wp_for2 4 (by omega) (fun k t => Fr (fun q => q = 164) s t ∧ ∀ m, m < 24192 → PB (t.1 164 m) (cq G k 0 m)) ?_ ?_ n 0 t (by omega) ⟨hf, fun m hm => by rw [hb m hm]; exact PB.f (fun ⟨k', a', h1, _⟩ => by omega)⟩ (by omega)
    · rintro rec2 k t hk ⟨hf, hb⟩ ih
      simp (disch := omega) only [le_ok, if_neg]
      refine wp_for2 6048 (by omega) (fun a t => Fr (fun q => q = 164) s t ∧ ∀ m, m < 24192 → PB (t.1 164 m) (cq G k a m)) ?_ ?_ n 0 t (by omega) ⟨hf, hb⟩ (by omega)
      · rintro rec3 a t ha ⟨hf, hb⟩ ih3
        have e158 : t.1 158 = s.1 158 := (hf 158 (by decide)).1
        have e159 : t.1 159 = s.1 159 := (hf 159 (by decide)).1
        have e160 : t.1 160 = s.1 160 := (hf 160 (by decide)).1
        have ek : a - a / 216 * 216 = a % 216 := by omega
        have hct : ct (a % 216) k ≤ a % 216 := ct_le _ _
        simp (disch := omega) only [le_ok, if_neg, jn_def, lt_def, nI_add]
        have main : ∀ v : Int32, PB v (cd (zS G (a / 216)) (a % 216)) → wp (if v = 0 then rec3 (nI (a + 1)) t else bd (fX12_cut (nI a - nI a / nI 216 * nI 216) (nI k) t) fun r22 s21 => wa 24192 (nI 6048 * nI k + nI a / nI 216 * nI 216 + r22) (rec3 (nI (a + 1)) (si s21 164 (nI 6048 * nI k + nI a / nI 216 * nI 216 + r22).toNatClampNeg (nz (nI 1))))) (fun _ t => Fr (fun q => q = 164) s t ∧ BY G (t.1 164)) := by
          intro v hv'
          by_cases h0 : v = 0
          · rw [if_pos h0]
            refine ih3 _ ⟨hf, fun m hm => (hb m hm).of ⟨?_, ?_⟩⟩
            · rintro ⟨k', a', h1, h2⟩
              exact ⟨k', a', by omega, h2⟩
            · rintro ⟨k', a', h1, h2, h3, h4⟩
              refine ⟨k', a', ?_, h2, h3, h4⟩
              rcases h1 with h1 | ⟨h1, h5⟩
              · exact Or.inl h1
              · rcases Nat.lt_or_ge a' a with h6 | h6
                · exact Or.inr ⟨h1, h6⟩
                · exact absurd (by rw [show a = a' by omega]; exact h3) (hv'.eq h0)
          · rw [if_neg h0]
            simp (disch := omega) only [pk_div, nI_mulN, nI_subN, ek]
            rw [cut_e (show a % 216 < 216 by omega) (by omega), bd_ok]
            simp (disch := omega) only [nI_add, wa_ok, cl_ok, nz1]
            refine ih3 _ ⟨hf.tr (Fr.si rfl), fun m hm => ?_⟩
            rw [si_q]
            dsimp only
            by_cases e : m = 6048 * k + a / 216 * 216 + ct (a % 216) k
            · rw [if_pos e]
              exact PB.t ⟨k, a, by omega, ha, hv'.ne h0, by omega⟩
            · rw [if_neg e]
              refine (hb m hm).of ⟨?_, ?_⟩
              · rintro ⟨k', a', h1, h2⟩
                exact ⟨k', a', by omega, h2⟩
              · rintro ⟨k', a', h1, h2, h3, h4⟩
                refine ⟨k', a', ?_, h2, h3, h4⟩
                rcases h1 with h1 | ⟨h1, h5⟩
                · exact Or.inl h1
                · rcases Nat.lt_or_ge a' a with h6 | h6
                  · exact Or.inr ⟨h1, h6⟩
                  · exfalso
                    apply e
                    rw [h4, h1, show a' = a by omega, Nat.mul_comm 216]
        have ea : 216 * (a / 216) + a % 216 = a := by omega
        by_cases c1 : 1296 ≤ a
        · rw [if_pos c1]
          by_cases c2 : 2592 ≤ a
          · rw [if_pos c2]
            simp (disch := omega) only [nI_subN, ra_ok]
            refine main _ ?_
            have h1 := (h160 (a / 216 - 12) (by omega)).pb (c := a % 216) (by omega)
            rw [show 216 * (a / 216 - 12) + a % 216 = a - 2592 by omega] at h1
            rw [e160]
            unfold zS
            rw [if_neg (by omega), if_neg (by omega)]
            exact h1
          · rw [if_neg c2]
            simp (disch := omega) only [nI_subN, ra_ok]
            refine main _ ?_
            have h1 := (h159 (a / 216 - 6) (by omega)).pb (c := a % 216) (by omega)
            rw [show 216 * (a / 216 - 6) + a % 216 = a - 1296 by omega] at h1
            rw [e159]
            unfold zS
            rw [if_neg (by omega), if_pos (by omega)]
            exact h1
        · rw [if_neg c1]
          simp (disch := omega) only [ra_ok]
          refine main _ ?_
          have h1 := (h158 (a / 216) (by omega)).pb (c := a % 216) (by omega)
          rw [ea] at h1
          rw [e158]
          unfold zS
          rw [if_pos (by omega)]
          exact h1
      · rintro rec3 t ⟨hf, hb⟩
        simp (disch := omega) only [le_ok, if_pos, lt_def, nI_add]
        refine ih _ ⟨hf, fun m hm => (hb m hm).of ⟨?_, ?_⟩⟩
        · rintro ⟨k', a', h1, h2⟩
          exact ⟨k', a', by omega, h2⟩
        · rintro ⟨k', a', h1, h2, h3⟩
          exact ⟨k', a', by omega, h2, h3⟩
    · rintro rec2 t ⟨hf, hb⟩
      simp (disch := omega) only [le_ok, if_pos]
      refine wp_some ⟨hf, fun k z hk hz c hc => ?_⟩
      refine (hb (6048 * k + 216 * z + c) (by omega)).of ?_
      show _ ↔ cd (ctS k (zS G z)) c
      rw [ctS_cd (hv z)]
      constructor
      · rintro ⟨k', a', h1, h2, h3, h4⟩
        have h5 := ct_le (a' % 216) k'
        have e1 : k' = k := by omega
        have e2 : a' / 216 = z := by omega
        subst e1
        rw [e2] at h3 h4
        exact ⟨a' % 216, h3, by omega⟩
      · rintro ⟨d, h1, h2⟩
        have hd := cd_lt (hv z) h1
        refine ⟨k, 216 * z + d, Or.inl hk, by omega, ?_, ?_⟩
        · rw [show (216 * z + d) / 216 = z by omega, show (216 * z + d) % 216 = d by omega]; exact h1
        · rw [show (216 * z + d) / 216 = z by omega, show (216 * z + d) % 216 = d by omega, h2]
def isL (q : Nat) : Prop := (153 ≤ q ∧ q ≤ 164)
/-- the reference's cells hold a grammar and what lays() finds of it -/
def MLd (G : Gr) (s : PH) : Prop := MG G (s.1 149) ∧ BA (s.1 153) 6 (eI G 6) ∧ NA (s.1 154) 6 (fI G 1000000000 6) ∧ BA (s.1 155) 6 (rI G 6) ∧ BA (s.1 156) 36 (clI (tAll false G (eI G 6) G.1) 6) ∧ BA (s.1 157) 36 (clI (tAll true G (eI G 6) G.1) 6) ∧ S6 (s.1 158) (FG G) ∧ S6 (s.1 159) (OG G) ∧ S16 (s.1 160) G.1 (AG G) ∧ (∀ c, c < 216 → s.1 163 c = nI 0) ∧ BY G (s.1 164)
theorem lays_e {G : Gr} {s : PH} (h : MG G (s.1 149)) (w : WG G) (hz : ∀ c, c < 216 → s.1 163 c = nI 0) {n : Nat} (hn : 30000 ≤ n) : wp (fX12_lays n s) (fun _ t => Fr isL s t ∧ MLd G t ∧ FOK G (FG G) ∧ OOK G (FG G) (OG G)) := by
  unfold fX12_lays
  refine wp_call (laysEmpty_e h w (by omega)) (fun _ t1 h1 => ?_)
  have f1 : Fr isL s t1 := h1.1.wk (fun q e => by unfold isL; omega)
  have hM1 := h.fr f1 (by unfold isL; omega)
  refine wp_call (laysFewest_e hM1 w (by omega)) (fun _ t2 h2 => ?_)
  have g2 : Fr isL t1 t2 := h2.1.wk (fun q e => by unfold isL; omega)
  have f2 := f1.tr g2
  have hM2 := h.fr f2 (by unfold isL; omega)
  refine wp_call (laysReached_e hM2 w (by omega)) (fun _ t3 h3 => ?_)
  have f3 := f2.tr (h3.1.wk (Q := isL) (fun q e => by unfold isL; omega))
  have hM3 := h.fr f3 (by unfold isL; omega)
  have hE3 : BA (t3.1 153) 6 (eI G 6) := by rw [(h3.1 153 (by omega)).1, (h2.1 153 (by omega)).1]; exact h1.2
  refine wp_call (laysTurns_e hM3 w hE3 (by omega)) (fun _ t4 h4 => ?_)
  have f4 := f3.tr (h4.1.wk (Q := isL) (fun q e => by unfold is2 at e; unfold isL; omega))
  have hM4 := h.fr f4 (by unfold isL; omega)
  have hz4 : ∀ c, c < 216 → t4.1 163 c = nI 0 := by
    rw [(h4.1 163 (by unfold is2; omega)).1, (h3.1 163 (by omega)).1, (h2.1 163 (by omega)).1, (h1.1 163 (by omega)).1]; exact hz
  refine wp_call (laysFirsts_e hM4 w hz4 (by omega)) (fun _ t5 h5 => ?_)
  obtain ⟨g5, hz5, F, hF6, hFOK⟩ := h5
  have eF := hFOK.eq
  subst eF
  have f5 := f4.tr (g5.wk (Q := isL) (fun q e => by unfold isF is7 at e; unfold isL; omega))
  have hM5 := h.fr f5 (by unfold isL; omega)
  refine wp_call (laysFollows_e hM5 w hFOK hF6 hz5 (by omega)) (fun _ t6 h6 => ?_)
  obtain ⟨g6, hz6, O, hO6, hOOK⟩ := h6
  have eO := hOOK.eq
  subst eO
  have f6 := f5.tr (g6.wk (Q := isL) (fun q e => by unfold isQ is7 at e; unfold isL; omega))
  have hM6 := h.fr f6 (by unfold isL; omega)
  have hF66 : S6 (t6.1 158) (FG G) := by rw [(g6 158 (by unfold isQ is7; omega)).1]; exact hF6
  refine wp_call (laysAheads_e hM6 w hFOK hOOK hF66 hO6 hz6 (by omega)) (fun _ t7 h7 => ?_)
  obtain ⟨g7, hz7, hA⟩ := h7
  have f7 := f6.tr (g7.wk (Q := isL) (fun q e => by unfold isA is7 at e; unfold isL; omega))
  have hF67 : S6 (t7.1 158) (FG G) := by rw [(g7 158 (by unfold isA is7; omega)).1]; exact hF66
  have hO67 : S6 (t7.1 159) (OG G) := by rw [(g7 159 (by unfold isA is7; omega)).1]; exact hO6
  have hvz : ∀ z, VS (zS G z) := by
    intro z
    unfold zS
    split
    · exact hFOK.1 _
    · split
      · exact hOOK.1 _
      · split
        · exact JL.vs (sqL.vs w hFOK.1 L1.vs ‹_› (a := 0) _ (by omega)) (hOOK.1 _)
        · exact fun _ h => h.elim
  refine wp_call (cuts_e hvz hF67 hO67 hA hn) (fun _ t8 h8 => ?_)
  have f8 := f7.tr (h8.1.wk (Q := isL) (fun q e => by unfold isL; omega))
  have r7 : ∀ q, q ≠ 164 → t8.1 q = t7.1 q := fun q hq => (h8.1 q hq).1
  have r6 : ∀ q, ¬ isA q → t7.1 q = t6.1 q := fun q hq => (g7 q hq).1
  have r5 : ∀ q, ¬ isQ q → t6.1 q = t5.1 q := fun q hq => (g6 q hq).1
  have r4 : ∀ q, ¬ isF q → t5.1 q = t4.1 q := fun q hq => (g5 q hq).1
  refine wp_some ⟨f8, ⟨h.fr f8 (by unfold isL; omega), ?_, ?_, ?_, ?_, ?_, ?_, ?_, ?_, ?_, h8.2⟩, hFOK, hOOK⟩
  · rw [r7 153 (by omega), r6 153 (by unfold isA is7; omega), r5 153 (by unfold isQ is7; omega), r4 153 (by unfold isF is7; omega), (h4.1 153 (by unfold is2; omega)).1]; exact hE3
  · rw [r7 154 (by omega), r6 154 (by unfold isA is7; omega), r5 154 (by unfold isQ is7; omega), r4 154 (by unfold isF is7; omega), (h4.1 154 (by unfold is2; omega)).1, (h3.1 154 (by omega)).1]; exact h2.2
  · rw [r7 155 (by omega), r6 155 (by unfold isA is7; omega), r5 155 (by unfold isQ is7; omega), r4 155 (by unfold isF is7; omega), (h4.1 155 (by unfold is2; omega)).1]; exact h3.2
  · rw [r7 156 (by omega), r6 156 (by unfold isA is7; omega), r5 156 (by unfold isQ is7; omega), r4 156 (by unfold isF is7; omega)]; exact h4.2.1
  · rw [r7 157 (by omega), r6 157 (by unfold isA is7; omega), r5 157 (by unfold isQ is7; omega), r4 157 (by unfold isF is7; omega)]; exact h4.2.2
  · rw [r7 158 (by omega)]; exact hF67
  · rw [r7 159 (by omega)]; exact hO67
  · rw [r7 160 (by omega)]; exact hA
  · rw [r7 163 (by omega)]; exact hz7
