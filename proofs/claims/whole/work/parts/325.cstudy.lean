/-! ===== the class: foresight whole; study ===== -/
/-- what the class foresees of a grammar -/
def CFo (G : Gr) (s : PH) : Prop := LW s ∧ SW 6 (FG G) s ∧ SW 12 (OG G) s ∧ AW G s ∧ ∀ x, x < 6 → DP G x (s.1 19 x) ∧ RD G x (s.1 20 x)
def isP (q : Nat) : Prop := q = 19 ∨ q = 20 ∨ (78 ≤ q ∧ q ≤ 137)
theorem gIP {g : Nat} (hg : g < 6) : ∀ k, k < 6 → ¬ isP (gId g k) := fun k hk => by unfold isP gId; omega
theorem aW_sqR {G : Gr} (w : WG G) {F O : Nat → WLs} (hF : ∀ x, VS (F x)) (hO : ∀ x, VS (O x)) {p : Nat} (hp : p < G.1) : sqR F (G.2.2.2 p) 0 (G.2.2.1 p) (O (G.2.1 p)) = aW G F O p := by
  unfold aW pW
  rw [sqLR, JL.l1 (sqR.vs w hF (hO _) hp _ 0 (by omega))]
theorem AW.fr {G : Gr} {P : Nat → Prop} {s t : PH} (h : AW G s) (w : WG G) (hf : Fr P s t) (hP : ∀ q, 102 ≤ q → q < 134 → ¬ P q) : AW G t := fun p hp => by
  have := w.1.2
  exact (h p hp).fr hf (fun k hk => hP _ (by unfold wId; omega) (by unfold wId; omega))
theorem CFo.fr {G : Gr} {P : Nat → Prop} {s t : PH} (h : CFo G s) (w : WG G) (hf : Fr P s t) (hP : ∀ q, 66 ≤ q → q < 138 → ¬ P q) (h19 : ¬ P 19) (h20 : ¬ P 20) : CFo G t := by
  refine ⟨h.1.fr hf (fun q h1 h2 => hP q h1 (by omega)), h.2.1.fr hf (fun q h1 h2 => hP q (by omega) (by omega)), h.2.2.1.fr hf (fun q h1 h2 => hP q (by omega) (by omega)), h.2.2.2.1.fr w hf (fun q h1 h2 => hP q (by omega) (by omega)), ?_⟩
  rw [(hf 19 h19).1, (hf 20 h20).1]
  exact h.2.2.2.2
theorem findF_c {G : Gr} {g : Nat} {s : PH} (h : CG G g s) (hg : g < 6) (w : WG G) (hL : LW s) {n : Nat} (hn : 2000 ≤ n) : wp (fX3_find n g s) (fun _ t => Fr isP s t ∧ CFo G t) := by
  have h16 := w.1.2
  unfold fX3_find
  refine wp_call (findFirsts_c h hg w hL hn) (fun _ t1 h1 => ?_)
  obtain ⟨f1, hF1, hFok⟩ := h1
  have f1' : Fr isP s t1 := f1.wk (fun q hq => by unfold isFs at hq; unfold isP; omega)
  have hL1 := hL.fr f1 (fun q h1 h2 => by unfold isFs; omega)
  refine wp_call (findFollows_c (h.fr f1 (gIFs hg)) hg w hL1 hF1 hFok.1 hn) (fun _ t2 h2 => ?_)
  obtain ⟨f2, O, hO2, hOok⟩ := h2
  have eO := hOok.eq
  subst eO
  have f2' : Fr isP s t2 := f1'.tr (f2.wk (fun q hq => by unfold isOs at hq; unfold isP; omega))
  have hF2 := hF1.fr f2 (fun q h1 h2 => by unfold isOs; omega)
  have hL2 := hL1.fr f2 (fun q h1 h2 => by unfold isOs; omega)
  simp only [lt_def]
  refine wp_for2 G.1 (by omega) (fun p t => Fr isP s t ∧ LW t ∧ SW 6 (FG G) t ∧ SW 12 (OG G) t ∧ ∀ p', p' < p → WSt (AG G p') (18 + p') t) ?_ ?_ n 0 t2 (by omega) ⟨f2', hL2, hF2, hO2, fun p' hp' => absurd hp' (Nat.not_lt_zero p')⟩ (by omega)
  · rintro rec p t hp ⟨hf, hL, hF, hO, hA⟩ ih
    have hgt := h.fr hf (gIP hg)
    have h6 := (w.2.1 p hp).1
    simp (disch := omega) only [count_c hgt, bd_ok, le_ok, if_neg, ra_ok]
    refine wp_call (drop_c (by omega)) (fun _ t3 h3 => ?_)
    obtain ⟨f3, hW3⟩ := h3
    have f3' : Fr isP s t3 := hf.tr (f3.wk (fun q hq => by unfold isWd wId at hq; unfold isP; omega))
    have hgt3 := h.fr f3' (gIP hg)
    have hL3 := hL.fr f3 (fun q h1 h2 => by unfold isWd wId; omega)
    have hF3 := hF.fr f3 (fun q h1 h2 => by unfold isWd wId; omega)
    have hO3 := hO.fr f3 (fun q h1 h2 => by unfold isWd wId; omega)
    simp (disch := omega) only [left_c hgt3 w hp, bd_ok, ra_ok]
    refine wp_call (putBefore_c hgt3 hg w hL3 hF3 (hO3 _ h6) (by omega) hp (by omega)) (fun i t4 h4 => ?_)
    obtain ⟨f4, hW4, hi⟩ := h4
    rw [aW_sqR w hFok.1 hOok.1 hp] at hW4
    have f4' : Fr isP s t4 := f3'.tr (f4.wk (fun q hq => by unfold isSc at hq; unfold isP; omega))
    have hW34 : WSt W0 (18 + p) t4 := hW3.fr f4 (wsc (by omega))
    refine wp_call (addAll_c hW34 hW4 (by omega) (by omega)) (fun r t5 h5 => ?_)
    obtain ⟨f5, hW5, _⟩ := h5
    simp only [nI_add]
    refine ih _ ⟨f4'.tr (f5.wk (fun q hq => by unfold isWd wId at hq; unfold isP; omega)), (hL3.fr f4 (fun q h1 h2 => by unfold isSc; omega)).fr f5 (fun q h1 h2 => by unfold isWd wId; omega), (hF3.fr f4 (fun q h1 h2 => by unfold isSc; omega)).fr f5 (fun q h1 h2 => by unfold isWd wId; omega), (hO3.fr f4 (fun q h1 h2 => by unfold isSc; omega)).fr f5 (fun q h1 h2 => by unfold isWd wId; omega), fun p' hp' => ?_⟩
    by_cases e : p' = p
    · subst e
      exact hW5.ext (fun l => ⟨fun h => h.elim (fun h => h.elim) id, Or.inr⟩)
    · exact (((hA p' (by omega)).fr f3 (isWd_ne (by omega))).fr f4 (wsc (by omega))).fr f5 (isWd_ne (by omega))
  · rintro rec t ⟨hf, hL, hF, hO, hA⟩
    have hgt := h.fr hf (gIP hg)
    simp (disch := omega) only [count_c hgt, bd_ok, le_ok, if_pos]
    refine wp_for2 6 (by omega) (fun x t' => Fr isP s t' ∧ Fr (fun q => q = 19 ∨ q = 20) t t' ∧ ∀ x', x' < x → DP G x' (t'.1 19 x') ∧ RD G x' (t'.1 20 x')) ?_ ?_ n 0 t (by omega) ⟨hf, Fr.rf, fun x' hx' => absurd hx' (Nat.not_lt_zero x')⟩ (by omega)
    · rintro rec2 x t' hx ⟨hf', hf'', hD⟩ ih
      have hgt' := h.fr hf' (gIP hg)
      have hAt' : AW G t' := AW.fr hA w hf'' (fun q h1 h2 => by omega)
      obtain ⟨r1, e1, e2⟩ := findDepth_c hgt' w hAt' hx (show 20 ≤ n by omega)
      simp (disch := omega) only [le_ok, if_neg, e1, bd_ok, wa_ok, cl_ok]
      have f3 : Fr (fun q => q = 19 ∨ q = 20) t (si t' 19 x r1) := hf''.tr (Fr.si (Or.inl rfl))
      have hgt3 := h.fr (hf'.tr (Fr.si (k := x) (v := r1) (Or.inl rfl))) (gIP hg)
      obtain ⟨r2, e3, e4⟩ := rough_c hgt3 w (AW.fr hA w f3 (fun q h1 h2 => by omega)) hx (show 20 ≤ n by omega)
      simp (disch := omega) only [e3, bd_ok, wa_ok, cl_ok, nI_add]
      refine ih _ ⟨(hf'.tr (Fr.si (Or.inl rfl))).tr (Fr.si (Or.inr (Or.inl rfl))), f3.tr (Fr.si (Or.inr rfl)), fun x' hx' => ?_⟩
      rw [si_r _ _ _ _ (show 19 ≠ 20 by decide), si_q, si_q, si_r _ _ _ _ (show 20 ≠ 19 by decide)]
      dsimp only
      by_cases e : x' = x
      · rw [if_pos e, if_pos e, e]; exact ⟨e2, e4⟩
      · rw [if_neg e, if_neg e]; exact hD x' (by omega)
    · rintro rec2 t' ⟨hf', hf'', hD⟩
      simp (disch := omega) only [le_ok, if_pos]
      exact wp_some ⟨hf', hL.fr hf'' (fun q h1 h2 => by omega), hF.fr hf'' (fun q h1 h2 => by omega), hO.fr hf'' (fun q h1 h2 => by omega), AW.fr hA w hf'' (fun q h1 h2 => by omega), hD⟩
/-- all that the class has found of its grammar; and nothing is counted -/
def CSt (G : Gr) (s : PH) : Prop := CTr G s ∧ CFo G s ∧ s.1 24 5 = nI 0 ∧ s.1 24 6 = nI 0 ∧ s.1 29 1 = nI 0
def isS (q : Nat) : Prop := isT q ∨ isP q ∨ q = 24 ∨ q = 29
theorem gIS {g : Nat} (hg : g < 6) : ∀ k, k < 6 → ¬ isS (gId g k) := fun k hk => by unfold isS isT isP gId; omega
theorem forget2_c (s : PH) : fX2_forget s = some ((), si (si s 24 5 (nI 0)) 24 6 (nI 0)) := rfl
theorem forget0_c (s : PH) : fX0_forget s = some ((), si s 29 1 (nI 0)) := rfl
theorem study_c {G : Gr} {s : PH} (h : CG G (s.2.2 0 8) s) (hg : s.2.2 0 8 < 6) (w : WG G) (hL : LW s) {n : Nat} (hn : 2000 ≤ n) : wp (fX11_study n s) (fun _ t => Fr isS s t ∧ CSt G t ∧ ∀ k, k ≠ 5 → k ≠ 6 → t.1 24 k = s.1 24 k) := by
  unfold fX11_study
  simp only [lt_def]
  refine wp_call (find_c h w (by omega)) (fun _ t1 h1 => ?_)
  have e0 : t1.2.2 0 8 = s.2.2 0 8 := congrFun (h1.1 0 (by unfold isT; decide)).2.2 8
  have h2 : CG G (t1.2.2 0 8) t1 := by rw [e0]; exact h.fr h1.1 gIT
  refine wp_call (findF_c h2 (by rw [e0]; exact hg) w (hL.fr h1.1 (fun q h1 h2 => by unfold isT; omega)) hn) (fun _ t2 h3 => ?_)
  rw [forget2_c, bd_ok, forget0_c, bd_ok]
  have hT2 := h1.2.fr h3.1 (fun q hq => by unfold isT at hq; unfold isP; omega)
  have f4 : Fr (fun q => q = 24 ∨ q = 29) t2 (si (si (si t2 24 5 (nI 0)) 24 6 (nI 0)) 29 1 (nI 0)) := ((Fr.si (P := fun q => q = 24 ∨ q = 29) (Or.inl rfl)).tr (Fr.si (Or.inl rfl))).tr (Fr.si (Or.inr rfl))
  refine wp_some ⟨((h1.1.wk (fun q hq => Or.inl hq)).tr (h3.1.wk (fun q hq => Or.inr (Or.inl hq)))).tr (f4.wk (fun q hq => Or.inr (Or.inr hq))), ⟨hT2.fr f4 (fun q hq => by unfold isT at hq; omega), h3.2.fr w f4 (fun q h1 h2 => by omega) (by decide) (by decide), ?_, ?_, ?_⟩, fun k h5 h6 => ?_⟩
  · rw [si_r _ _ _ _ (by decide), si_q]
    dsimp only
    rw [if_neg (by decide), si_q]
    dsimp only
    rw [if_pos rfl]
  · rw [si_r _ _ _ _ (by decide), si_q]
    dsimp only
    rw [if_pos rfl]
  · rw [si_q]
    dsimp only
    rw [if_pos rfl]
  · rw [si_r _ _ _ _ (by decide), si_q]
    dsimp only
    rw [if_neg h6, si_q]
    dsimp only
    rw [if_neg h5, (h3.1 24 (by unfold isP; decide)).1, (h1.1 24 (by unfold isT; decide)).1]
