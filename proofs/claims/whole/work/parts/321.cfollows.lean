/-! ===== the class: following words ===== -/
theorem oW_sqR {G : Gr} (w : WG G) {F O : Nat → WLs} (hF : ∀ x, VS (F x)) (hO : ∀ x, VS (O x)) {p i : Nat} (hp : p < G.1) (hi : i < G.2.2.1 p) : oW G F O p i = sqR F (G.2.2.2 p) (i + 1) (G.2.2.1 p - (i + 1)) (O (G.2.1 p)) := by
  unfold oW
  rw [sqLR, JL.l1 (sqR.vs w hF (hO _) hp _ (i + 1) (by omega))]
theorem oW_mono {G : Gr} {F O O' : Nat → WLs} (h : ∀ x l, O x l → O' x l) (p i : Nat) (l : List Nat) (hl : oW G F O p i l) : oW G F O' p i l := JL.mono (fun _ h => h) (h _) l hl
def isOs (q : Nat) : Prop := (90 ≤ q ∧ q ≤ 101) ∨ (134 ≤ q ∧ q ≤ 137)
theorem gIOs {g : Nat} (hg : g < 6) : ∀ k, k < 6 → ¬ isOs (gId g k) := fun k hk => by unfold isOs gId; omega
theorem VS.up {F : Nat → WLs} {x : Nat} {A : WLs} (hF : ∀ y, VS (F y)) (hA : VS A) : ∀ y, VS (upW F x A y) := by
  intro y
  unfold upW
  by_cases e : y = x
  · rw [if_pos e]
    rintro l (h | h)
    · exact hF y l h
    · exact hA l h
  · rw [if_neg e]; exact hF y
theorem growFollows_c {G : Gr} {g : Nat} {s : PH} {F O : Nat → WLs} (h : CG G g s) (hg : g < 6) (w : WG G) (hL : LW s) (hF : SW 6 F s) (hFv : ∀ x, VS (F x)) (hO : SW 12 O s) (hOv : ∀ x, VS (O x)) (hlst : ∀ C, OC G F C → ∀ x l, O x l → C x l) {p n : Nat} (hp : p < G.1) (hn : 10 ≤ n) : wp (fX3_growFollows n g (nI p) s) (fun r t => Fr isOs s t ∧ ∃ O', SW 12 O' t ∧ (∀ x, VS (O' x)) ∧ (∀ x l, O x l → O' x l) ∧ (∀ C, OC G F C → ∀ x l, O' x l → C x l) ∧ ((r = nI 0 ∧ O' = O ∧ ∀ i, i < G.2.2.1 p → 10 ≤ G.2.2.2 p i → ∀ l, oW G F O p i l → O (G.2.2.2 p i - 10) l) ∨ (r = nI 1 ∧ ms O' + 1 ≤ ms O))) := by
  have h5 := (w.2.1 p hp).2
  have h6 := (w.2.1 p hp).1
  unfold fX3_growFollows
  simp (disch := omega) only [left_c h w hp, length_c h w hp, bd_ok, lt_def, ra_ok]
  refine wp_dn4 (fun j v i t => j ≤ G.2.2.1 p ∧ Fr isOs s t ∧ ∃ O', SW 12 O' t ∧ (∀ x, VS (O' x)) ∧ (∀ x l, O x l → O' x l) ∧ (∀ C, OC G F C → ∀ x l, O' x l → C x l) ∧ WSt (sqR F (G.2.2.2 p) j (G.2.2.1 p - j) (O (G.2.1 p))) i t ∧ ((j = G.2.2.1 p ∧ i = 12 + G.2.1 p ∧ O' = O) ∨ i = 34 + j % 2) ∧ ((v = nI 0 ∧ O' = O ∧ ∀ i, j ≤ i → i < G.2.2.1 p → 10 ≤ G.2.2.2 p i → ∀ l, oW G F O p i l → O (G.2.2.2 p i - 10) l) ∨ (v = nI 1 ∧ ms O' + 1 ≤ ms O))) ?_ ?_ n (G.2.2.1 p) _ _ s ⟨Nat.le_refl _, Fr.rf, O, hO, hOv, fun _ _ h => h, hlst, by rw [Nat.sub_self]; exact hO _ h6, Or.inl ⟨rfl, rfl, rfl⟩, Or.inl ⟨rfl, rfl, fun i h1 h2 => by omega⟩⟩ (by omega)
  · rintro rec j v i t ⟨hj, hf, O', hO', hOv', hge, hlst', hW, hi, hcase⟩ ih
    have hgt := h.fr hf (gIOs hg)
    have hjl : j < G.2.2.1 p := by omega
    have hy := sy16 w hp hjl
    have hLt := hL.fr hf (fun q h1 h2 => by unfold isOs; omega)
    have hFt := hF.fr hf (fun q h1 h2 => by unfold isOs; omega)
    rw [if_neg (by rw [lt0_ok (by omega)]; exact fun z => z)]
    simp (disch := omega) only [symbolAt_c hgt w hp hjl, bd_ok, isLetter_c, bI_0, decide_eq_false_iff_not, jn_def, lt_def, and1, ra_ok, dn_m]
    -- what follows the adding
    have fin : ∀ (v' : Int32) (u : PH) (O2 : Nat → WLs), Fr isOs s u → SW 12 O2 u → (∀ x, VS (O2 x)) → (∀ x l, O x l → O2 x l) → (∀ C, OC G F C → ∀ x l, O2 x l → C x l) → WSt (sqR F (G.2.2.2 p) (j + 1) (G.2.2.1 p - (j + 1)) (O (G.2.1 p))) i u → ((v' = nI 0 ∧ O2 = O ∧ ∀ i, j ≤ i → i < G.2.2.1 p → 10 ≤ G.2.2.2 p i → ∀ l, oW G F O p i l → O (G.2.2.2 p i - 10) l) ∨ (v' = nI 1 ∧ ms O2 + 1 ≤ ms O)) → wp (bd (fX3_wordsOf (nI (G.2.2.2 p j)) u) fun w23 s22 => bd (fX10_join n (34 + j % 2) w23 i s22) fun _ s24 => rec v' (34 + j % 2) (nI j - nI 1) s24) (fun r t => Fr isOs s t ∧ ∃ O', SW 12 O' t ∧ (∀ x, VS (O' x)) ∧ (∀ x l, O x l → O' x l) ∧ (∀ C, OC G F C → ∀ x l, O' x l → C x l) ∧ ((r = nI 0 ∧ O' = O ∧ ∀ i, i < G.2.2.1 p → 10 ≤ G.2.2.2 p i → ∀ l, oW G F O p i l → O (G.2.2.2 p i - 10) l) ∨ (r = nI 1 ∧ ms O' + 1 ≤ ms O))) := by
      intro v' u O2 hfu hOu hv2 hge2 hl2 hWu hc2
      have hLu := hL.fr hfu (fun q h1 h2 => by unfold isOs; omega)
      have hFu := hF.fr hfu (fun q h1 h2 => by unfold isOs; omega)
      obtain ⟨i2, e1, e2, e3⟩ := wordsOf_c hLu hFu hy (fun h1 => sy5 w hp hjl h1)
      rw [e1, bd_ok]
      refine wp_call (join_c e3 hWu (by omega) (by omega) hn) (fun _ t2 h2 => ?_)
      refine ih _ _ _ ⟨by omega, hfu.tr (h2.1.wk (fun q hq => by unfold isWd wId at hq; unfold isOs; omega)), O2, hOu.fr h2.1 (fun q h1 h2 => by unfold isWd wId; omega), hv2, hge2, hl2, ?_, Or.inr rfl, hc2⟩
      rw [show G.2.2.1 p - j = (G.2.2.1 p - (j + 1)) + 1 by omega]
      exact h2.2
    by_cases hc : G.2.2.2 p j < 10
    · rw [if_neg (by omega)]
      refine fin v t O' hf hO' hOv' hge hlst' hW ?_
      rcases hcase with ⟨h1, h2, h3⟩ | h1
      · refine Or.inl ⟨h1, h2, fun i hi1 hi2 hy1 => ?_⟩
        by_cases e : i = j
        · subst e; omega
        · exact h3 i (by omega) hi2 hy1
      · exact Or.inr h1
    · rw [if_pos hc]
      simp (disch := omega) only [nI_subN, ra_ok]
      have hx6 : G.2.2.2 p j - 10 < 6 := by omega
      have eo : oW G F O p j = sqR F (G.2.2.2 p) (j + 1) (G.2.2.1 p - (j + 1)) (O (G.2.1 p)) := oW_sqR w hFv hOv hp hjl
      by_cases hself : 12 + (G.2.2.2 p j - 10) = i
      · -- the set itself
        have hin : j + 1 = G.2.2.1 p ∧ i = 12 + G.2.1 p ∧ O' = O := by
          rcases hi with h1 | h1
          · exact h1
          · omega
        obtain ⟨hj1, hi1, rfl⟩ := hin
        rw [hself]
        refine wp_call (addSelf_c hW hn) (fun r t2 h2 => ?_)
        obtain ⟨hf2, hW2, rfl⟩ := h2
        rw [if_pos n0_0]
        have hO2 : SW 12 O' t2 := by
          intro y hy'
          by_cases e : 12 + y = i
          · rw [e]
            have h3 := hO' y hy'
            have e0 : O' y = O' (G.2.1 p) := by
              congr 1
              omega
            rw [show G.2.2.1 p - (j + 1) = 0 by omega] at hW2
            rw [e0]
            exact hW2
          · exact (hO' y hy').fr hf2 (isWd_ne (fun z => e z.symm))
        refine fin v t2 O' (hf.tr (hf2.wk (fun q hq => by unfold isWd wId at hq; unfold isOs; omega))) hO2 hOv' hge hlst' hW2 ?_
        rcases hcase with ⟨h1, h2, h3⟩ | h1
        · refine Or.inl ⟨h1, rfl, fun i' hi' hi2 hy1 l hl => ?_⟩
          by_cases e : i' = j
          · subst e
            rw [eo, show G.2.2.1 p - (i' + 1) = 0 by omega] at hl
            have e0 : G.2.2.2 p i' - 10 = G.2.1 p := by omega
            rw [e0]
            exact hl
          · exact h3 i' (by omega) hi2 hy1 l hl
        · exact Or.inr h1
      · refine wp_call (addAll_c (hO' _ hx6) hW hself hn) (fun r t2 h2 => ?_)
        obtain ⟨hf2, hW2, hr⟩ := h2
        have hOup := hO'.up hf2 hW2
        have hWi : WSt (sqR F (G.2.2.2 p) (j + 1) (G.2.2.1 p - (j + 1)) (O (G.2.1 p))) i t2 := hW.fr hf2 (isWd_ne hself)
        have hfu : Fr isOs s t2 := hf.tr (hf2.wk (fun q hq => by unfold isWd wId at hq; unfold isOs; omega))
        have hvu := VS.up hOv' (x := G.2.2.2 p j - 10) hW.1
        have hlu : ∀ C, OC G F C → ∀ x l, upW O' (G.2.2.2 p j - 10) (sqR F (G.2.2.2 p) (j + 1) (G.2.2.1 p - (j + 1)) (O (G.2.1 p))) x l → C x l := by
          intro C hC x l hx
          unfold upW at hx
          by_cases e : x = G.2.2.2 p j - 10
          · rw [if_pos e] at hx
            rcases hx with hx | hx
            · exact hlst' C hC x l hx
            · rw [e]
              refine hC.2 p j hp hjl (by omega) l (oW_mono (hlst C hC) p j l ?_)
              rw [eo]; exact hx
          · rw [if_neg e] at hx
            exact hlst' C hC x l hx
        by_cases hr0 : r = 0
        · rw [if_pos hr0]
          have hno : ∀ l, sqR F (G.2.2.2 p) (j + 1) (G.2.2.1 p - (j + 1)) (O (G.2.1 p)) l → O' (G.2.2.2 p j - 10) l := fun l hl => Classical.byContradiction (fun hc => hr.eq hr0 ⟨l, hl, hc⟩)
          rw [upW_same hno] at hOup
          refine fin v t2 O' hfu hOup hOv' hge hlst' hWi ?_
          rcases hcase with ⟨h1, rfl, h3⟩ | h1
          · refine Or.inl ⟨h1, rfl, fun i' hi' hi2 hy1 l hl => ?_⟩
            by_cases e : i' = j
            · subst e
              rw [eo] at hl
              exact hno l hl
            · exact h3 i' (by omega) hi2 hy1 l hl
          · exact Or.inr h1
        · rw [if_neg hr0]
          obtain ⟨l, hl1, hl2⟩ := hr.ne hr0
          have hlt : ms (upW O' (G.2.2.2 p j - 10) (sqR F (G.2.2.2 p) (j + 1) (G.2.2.1 p - (j + 1)) (O (G.2.1 p)))) + 1 ≤ ms O' := ms_lt (fun x l hx => upW_ge x l hx) hvu hx6 (l := l) (by unfold upW; rw [if_pos rfl]; exact Or.inr hl1) hl2
          refine fin _ t2 _ hfu hOup hvu (fun x l hx => upW_ge x l (hge x l hx)) hlu hWi (Or.inr ⟨rfl, ?_⟩)
          rcases hcase with ⟨_, rfl, _⟩ | ⟨_, h1⟩
          · exact hlt
          · omega
  · rintro rec v i t ⟨hj, hf, O', hO', hOv', hge, hlst', hW, hi, hcase⟩
    rw [if_pos dn_neg]
    have hrz : rz v t = some (v, t) := by
      rcases hcase with ⟨rfl, _⟩ | ⟨rfl, _⟩
      · exact rz0 t
      · exact rz1 t
    rw [hrz]
    refine wp_some ⟨hf, O', hO', hOv', hge, hlst', ?_⟩
    rcases hcase with ⟨h1, h2, h3⟩ | h1
    · exact Or.inl ⟨h1, h2, fun i hi => h3 i (Nat.zero_le i) hi⟩
    · exact Or.inr h1
theorem addEmpty_c {s : PH} {i : Nat} (h : WSt W0 i s) : wp (fX10_addEmptyWord i s) (fun _ t => Fr (isWd i) s t ∧ WSt L1 i t) := by
  unfold fX10_addEmptyWord
  simp (disch := omega) only [wa_ok, lt_def, cl_ok]
  have l1 : LB 1 (fun c => c = 0) := fun c => by rw [tb_1, decide_eq_true_eq]
  have hc : ∀ k c, cd (ctS k W0) c ↔ False := fun k c => ⟨fun ⟨_, ⟨_, h, _⟩, _⟩ => h, fun h => h.elim⟩
  have hk : ∀ k c, cd (ctS k L1) c ↔ c = 0 := by
    intro k c
    constructor
    · rintro ⟨_, ⟨a, rfl, rfl⟩, rfl⟩
      simp [enc]
    · rintro rfl
      exact ⟨[], ⟨[], rfl, by simp⟩, rfl⟩
  refine wp_some ⟨Fr.tr (P := isWd i) (Fr.tr (P := isWd i) (Fr.sl (Or.inr rfl)) (Fr.sl (Or.inl rfl))) (Fr.sl (Or.inl rfl)), L1.vs, ?_, fun x hx => ?_, ?_, ?_⟩
  · rw [sl_r _ _ _ _ (wne i i), sl_r _ _ _ _ (wne i i), sl_q]
    dsimp only
    rw [if_pos rfl]
    exact l1.of (fun c => ⟨fun h => ⟨h, rfl⟩, fun h => h.1⟩)
  · rw [sl_r _ _ _ _ (wne i i), sl_r _ _ _ _ (wne i i), sl_q]
    dsimp only
    rw [if_neg (by omega)]
    refine (h.2.2.1 x hx).of (fun c => ⟨fun ⟨_, h, _⟩ => h.elim, ?_⟩)
    rintro ⟨l, h, _⟩
    cases h
  · rw [sl_q]
    dsimp only
    rw [if_neg (by decide), sl_q]
    dsimp only
    rw [if_pos rfl, sl_r _ _ _ _ (wne' i i)]
    refine (h.2.2.2.1.or l1).of (fun c => ?_)
    rw [hk, hc]
    exact ⟨fun h => h.elim (fun h => h.elim) id, Or.inr⟩
  · rw [sl_q]
    dsimp only
    rw [if_pos rfl, sl_q]
    dsimp only
    rw [if_neg (by decide), sl_r _ _ _ _ (wne' i i)]
    refine (h.2.2.2.2.or l1).of (fun c => ?_)
    rw [hk, hc]
    exact ⟨fun h => h.elim (fun h => h.elim) id, Or.inr⟩
theorem findFollows_c {G : Gr} {g : Nat} {s : PH} {F : Nat → WLs} (h : CG G g s) (hg : g < 6) (w : WG G) (hL : LW s) (hF : SW 6 F s) (hFv : ∀ x, VS (F x)) {n : Nat} (hn : 2000 ≤ n) : wp (fX3_findFollows n g s) (fun _ t => Fr isOs s t ∧ ∃ O, SW 12 O t ∧ OOK G F O) := by
  have h16 := w.1.2
  have h06 := (w.2.1 0 w.1.1).1
  unfold fX3_findFollows
  simp only [lt_def]
  refine wp_for2 6 (by omega) (fun j t => Fr (fun q => 66 + 2 * 12 ≤ q ∧ q < 78 + 2 * 12) s t ∧ ∀ x, x < j → WSt W0 (12 + x) t) ?_ ?_ n 0 s (by omega) ⟨Fr.rf, fun x hx => absurd hx (Nat.not_lt_zero x)⟩ (by omega)
  · rintro rec j t hj ⟨hf, hb⟩ ih
    simp (disch := omega) only [le_ok, if_neg, ra_ok]
    refine wp_call (dropSix_c (by omega) t (fun _ => W0) hf hj hb) (fun _ t2 h2 => ?_)
    simp only [nI_add]
    exact ih _ h2
  · rintro rec t ⟨hf0, hb⟩
    have hf1 : Fr isOs s t := hf0.wk (fun q hq => by unfold isOs; omega)
    have hgt := h.fr hf1 (gIOs hg)
    simp (disch := omega) only [le_ok, if_pos, start_c hgt w, bd_ok, ra_ok]
    refine wp_call (addEmpty_c (hb _ h06)) (fun _ t2 h2 => ?_)
    have hf2 : Fr isOs s t2 := hf1.tr (h2.1.wk (fun q hq => by unfold isWd wId at hq; unfold isOs; omega))
    have hS0 : SW 12 (fun x => if x = G.2.1 0 then L1 else W0) t2 := by
      intro x hx
      dsimp only
      by_cases e : x = G.2.1 0
      · rw [if_pos e, e]; exact h2.2
      · rw [if_neg e]; exact (hb x hx).fr h2.1 (isWd_ne (by omega))
    have hv0 : ∀ x, VS (if x = G.2.1 0 then L1 else W0) := by
      intro x
      by_cases e : x = G.2.1 0
      · rw [if_pos e]; exact L1.vs
      · rw [if_neg e]; exact fun _ h => h.elim
    refine wp_for3 1000 (by omega) (fun r v t => ∃ O, Fr isOs s t ∧ SW 12 O t ∧ (∀ x, VS (O x)) ∧ O (G.2.1 0) [] ∧ (∀ C, OC G F C → ∀ x l, O x l → C x l) ∧ ((v = nI 1 ∧ r + ms O ≤ 936) ∨ (v = nI 0 ∧ OC G F O))) ?_ ?_ n 0 _ t2 (by omega) ⟨fun x => if x = G.2.1 0 then L1 else W0, hf2, hS0, hv0, by show (if G.2.1 0 = G.2.1 0 then L1 else W0) []; rw [if_pos rfl]; rfl, ?_, Or.inl ⟨rfl, by have := ms_le (fun x => if x = G.2.1 0 then L1 else W0); omega⟩⟩ (by omega)
    · rintro rec2 r v t hr ⟨O, hf, hS, hv, h0, hlst, hcase⟩ ih
      simp (disch := omega) only [le_ok, if_neg]
      rcases hcase with ⟨rfl, hms⟩ | ⟨rfl, hC⟩
      · rw [if_neg n1_0]
        refine wp_for3 G.1 (by omega) (fun p v t => ∃ O', Fr isOs s t ∧ SW 12 O' t ∧ (∀ x, VS (O' x)) ∧ O' (G.2.1 0) [] ∧ (∀ C, OC G F C → ∀ x l, O' x l → C x l) ∧ ((v = nI 0 ∧ O' = O ∧ ∀ p', p' < p → ∀ i, i < G.2.2.1 p' → 10 ≤ G.2.2.2 p' i → ∀ l, oW G F O p' i l → O (G.2.2.2 p' i - 10) l) ∨ (v = nI 1 ∧ ms O' + 1 ≤ ms O))) ?_ ?_ n 0 _ t (by omega) ⟨O, hf, hS, hv, h0, hlst, Or.inl ⟨rfl, rfl, fun p' hp' => absurd hp' (Nat.not_lt_zero p')⟩⟩ (by omega)
        · rintro rec3 p v t hp ⟨O', hf, hS, hv, h0, hlst, hcase⟩ ih3
          have hgt := h.fr hf (gIOs hg)
          have hLt := hL.fr hf (fun q h1 h2 => by unfold isOs; omega)
          have hFt := hF.fr hf (fun q h1 h2 => by unfold isOs; omega)
          simp (disch := omega) only [count_c hgt, bd_ok, le_ok, if_neg]
          refine wp_call (growFollows_c hgt hg w hLt hFt hFv hS hv hlst hp (by omega)) (fun rr t3 h3 => ?_)
          obtain ⟨hf3, O2, hS3, hv3, hge3, hl3, hc3⟩ := h3
          simp only [jn_def, lt_def, nI_add]
          rcases hc3 with ⟨rfl, rfl, hcl⟩ | ⟨rfl, hlt⟩
          · rw [if_pos n0_0]
            refine ih3 _ _ ⟨O2, hf.tr hf3, hS3, hv, h0, hlst, ?_⟩
            rcases hcase with ⟨h1, rfl, h2⟩ | h1
            · refine Or.inl ⟨h1, rfl, fun p' hp' => ?_⟩
              by_cases e : p' = p
              · subst e; exact hcl
              · exact h2 p' (by omega)
            · exact Or.inr h1
          · rw [if_neg n1_0]
            refine ih3 _ _ ⟨O2, hf.tr hf3, hS3, hv3, hge3 _ _ h0, hl3, Or.inr ⟨rfl, ?_⟩⟩
            rcases hcase with ⟨_, rfl, _⟩ | ⟨_, h1⟩
            · exact hlt
            · omega
        · rintro rec3 v t ⟨O', hf, hS, hv, h0, hlst, hcase⟩
          have hgt := h.fr hf (gIOs hg)
          simp (disch := omega) only [count_c hgt, bd_ok, le_ok, if_pos, nI_add, lt_def]
          refine ih _ _ ⟨O', hf, hS, hv, h0, hlst, ?_⟩
          rcases hcase with ⟨h1, rfl, h2⟩ | ⟨h1, h2⟩
          · exact Or.inr ⟨h1, h0, fun p i hp hi hy l hl => h2 p hp i hi hy l hl⟩
          · exact Or.inl ⟨h1, by omega⟩
      · rw [if_pos n0_0]
        exact wp_some ⟨hf, O, hS, hv, hC, hlst⟩
    · rintro rec2 v t ⟨O, hf, hS, hv, h0, hlst, hcase⟩
      simp (disch := omega) only [le_ok, if_pos]
      rcases hcase with ⟨rfl, hms⟩ | ⟨rfl, hC⟩
      · omega
      · exact wp_some ⟨hf, O, hS, hv, hC, hlst⟩
    · intro C hC x l hx
      by_cases e : x = G.2.1 0
      · rw [if_pos e] at hx
        have : l = [] := hx
        rw [this, e]
        exact hC.1
      · rw [if_neg e] at hx
        exact hx.elim
