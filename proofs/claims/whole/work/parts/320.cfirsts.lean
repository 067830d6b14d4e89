/-! ===== the class: first words ===== -/
/-- the sets of the empty word and of the letters -/
def LW (s : PH) : Prop := WSt L1 0 s ∧ ∀ y, y < 5 → WSt (fun l => l = [y]) (1 + y) s
/-- six sets of words, from set o on -/
def SW (o : Nat) (F : Nat → WLs) (s : PH) : Prop := ∀ x, x < 6 → WSt (F x) (o + x) s
def isSc (q : Nat) : Prop := 134 ≤ q ∧ q ≤ 137
theorem wsc {i : Nat} (h : i < 34) : ∀ k, k < 2 → ¬ isSc (wId i k) := fun k hk => by unfold isSc wId; omega
theorem LW.fr {P : Nat → Prop} {s t : PH} (h : LW s) (hf : Fr P s t) (hP : ∀ q, 66 ≤ q → q < 78 → ¬ P q) : LW t :=
  ⟨h.1.fr hf (fun k hk => hP _ (by unfold wId; omega) (by unfold wId; omega)), fun y hy => (h.2 y hy).fr hf (fun k hk => hP _ (by unfold wId; omega) (by unfold wId; omega))⟩
theorem SW.fr {o : Nat} {F : Nat → WLs} {P : Nat → Prop} {s t : PH} (h : SW o F s) (hf : Fr P s t) (hP : ∀ q, 66 + 2 * o ≤ q → q < 78 + 2 * o → ¬ P q) : SW o F t :=
  fun x hx => (h x hx).fr hf (fun k hk => hP _ (by unfold wId; omega) (by unfold wId; omega))
theorem wordsOf_c {s : PH} {F : Nat → WLs} (hL : LW s) (hF : SW 6 F s) {y : Nat} (hy : y < 16) (hy5 : y < 10 → y < 5) : ∃ i, fX3_wordsOf (nI y) s = some (i, s) ∧ i < 12 ∧ WSt (sW F y) i s := by
  unfold fX3_wordsOf sW
  by_cases h : y < 10
  · refine ⟨1 + y, ?_, by omega, ?_⟩
    · have := hy5 h
      simp (disch := omega) only [isLetter_c, bd_ok, bI_0, decide_eq_false_iff_not, if_neg, ra_ok]
    · rw [if_pos h]; exact hL.2 y (hy5 h)
  · refine ⟨6 + (y - 10), ?_, by omega, ?_⟩
    · simp (disch := omega) only [isLetter_c, bd_ok, bI_0, decide_eq_false_iff_not, nI_subN, ra_ok]
      rw [if_pos h]
    · rw [if_neg h]; exact hF (y - 10) (by omega)
theorem and1 (j : Nat) : (nI j &&& nI 1) = nI (j % 2) := by rw [nI_and, Nat.and_one_is_mod]
theorem putBefore_c {G : Gr} {g : Nat} {s : PH} {F : Nat → WLs} {B : WLs} {b : Nat} (h : CG G g s) (hg : g < 6) (w : WG G) (hL : LW s) (hF : SW 6 F s) (hB : WSt B b s) (hb : b < 34) {p n : Nat} (hp : p < G.1) (hn : 10 ≤ n) : wp (fX3_putBefore n g (nI p) b s) (fun i t => Fr isSc s t ∧ WSt (sqR F (G.2.2.2 p) 0 (G.2.2.1 p) B) i t ∧ (i = b ∨ i = 34 ∨ i = 35)) := by
  have h5 := (w.2.1 p hp).2
  have hgs : ∀ k, k < 6 → ¬ isSc (gId g k) := fun k hk => by unfold isSc gId; omega
  unfold fX3_putBefore
  simp only [length_c h w hp, bd_ok, lt_def]
  refine wp_dn3 (fun j i t => j ≤ G.2.2.1 p ∧ Fr isSc s t ∧ WSt (sqR F (G.2.2.2 p) j (G.2.2.1 p - j) B) i t ∧ ((j = G.2.2.1 p ∧ i = b) ∨ i = 34 + j % 2)) ?_ ?_ n (G.2.2.1 p) b s ⟨Nat.le_refl _, Fr.rf, by rw [Nat.sub_self]; exact hB, Or.inl ⟨rfl, rfl⟩⟩ (by omega)
  · rintro rec j i t ⟨hj, hf, hW, hi⟩ ih
    have hgt := h.fr hf hgs
    have hy := sy16 w hp (i := j) (by omega)
    obtain ⟨i2, e1, e2, e3⟩ := wordsOf_c (hL.fr hf (fun q h1 h2 => by unfold isSc; omega)) (hF.fr hf (fun q h1 h2 => by unfold isSc; omega)) hy (fun h1 => sy5 w hp (by omega) h1)
    rw [if_neg (by rw [lt0_ok (by omega)]; exact fun z => z)]
    simp (disch := omega) only [and1, ra_ok, symbolAt_c hgt w hp (show j < G.2.2.1 p by omega), bd_ok, e1]
    refine wp_call (join_c e3 hW (by omega) (by omega) hn) (fun _ t2 h2 => ?_)
    rw [dn_m]
    refine ih _ _ ⟨by omega, hf.tr (h2.1.wk (fun q hq => by unfold isWd wId at hq; unfold isSc; omega)), ?_, Or.inr rfl⟩
    rw [show G.2.2.1 p - j = (G.2.2.1 p - (j + 1)) + 1 by omega]
    exact h2.2
  · rintro rec i t ⟨hj, hf, hW, hi⟩
    rw [if_pos dn_neg]
    refine wp_some ⟨hf, hW, ?_⟩
    omega
theorem sqR.vs {G : Gr} (w : WG G) {F : Nat → WLs} (hF : ∀ x, VS (F x)) {B : WLs} (hB : VS B) {p : Nat} (hp : p < G.1) : ∀ k i, i + k = G.2.2.1 p → VS (sqR F (G.2.2.2 p) i k B)
  | 0, _, _ => hB
  | k + 1, i, h => JL.vs (sW.vs hF (fun h1 => sy5 w hp (by omega) h1)) (sqR.vs w hF hB hp k (i + 1) (by omega))
theorem pW_sqR {G : Gr} (w : WG G) {F : Nat → WLs} (hF : ∀ x, VS (F x)) {p : Nat} (hp : p < G.1) : sqR F (G.2.2.2 p) 0 (G.2.2.1 p) L1 = pW G F p := by
  have h := sqLR F (G.2.2.2 p) (G.2.2.1 p) 0 L1 L1
  rw [JL.l1 (sqR.vs w hF L1.vs hp _ 0 (by omega)), JL.r1 (sqL.vs w hF L1.vs hp _ (by omega))] at h
  exact h.symm
/-- which numbers are those of words -/
def vw (c : Nat) : Bool := decide (c = 0) || decide (c < 6) || (decide (c < 36) && !decide (c % 6 = 0)) || (!decide (c % 6 = 0) && !decide (c / 6 % 6 = 0))
theorem vw_enc {l : List Nat} (h : VL l) : vw (enc l) = true := by
  have h1 : ∀ x : Fin 5, vw (x.val + 1) = true := by decide +kernel
  have h2 : ∀ x y : Fin 5, vw (6 * (x.val + 1) + (y.val + 1)) = true := by decide +kernel
  have h3 : ∀ x y z : Fin 5, vw (36 * (x.val + 1) + 6 * (y.val + 1) + (z.val + 1)) = true := by decide +kernel
  rcases h.c with rfl | ⟨x, hx, rfl⟩ | ⟨x, y, hx, hy, rfl⟩ | ⟨x, y, z, hx, hy, hz, rfl⟩
  · rfl
  · exact h1 ⟨x, hx⟩
  · exact h2 ⟨x, hx⟩ ⟨y, hy⟩
  · exact h3 ⟨x, hx⟩ ⟨y, hy⟩ ⟨z, hz⟩
noncomputable def cB (W : WLs) (c : Nat) : Bool := @decide (cd W c) (Classical.propDecidable _)
theorem cB_t {W : WLs} {c : Nat} : cB W c = true ↔ cd W c := by unfold cB; exact @decide_eq_true_iff _ (Classical.propDecidable _)
/-- how many words are missing in six sets -/
noncomputable def ms (F : Nat → WLs) : Nat := cn (fun k => vw (k % 216) && !cB (F (k / 216)) (k % 216)) 1296
theorem ms_le (F : Nat → WLs) : ms F ≤ 936 := by
  have h : cn (fun k => vw (k % 216)) 1296 = 936 := by decide +kernel
  rw [← h]
  refine cn_mono 1296 (fun k _ hk => ?_)
  simp only [Bool.and_eq_true] at hk
  exact hk.1
theorem ms_lt {F F' : Nat → WLs} (h : ∀ x l, F x l → F' x l) (hv : ∀ x, VS (F' x)) {x : Nat} {l : List Nat} (hx : x < 6) (h1 : F' x l) (h2 : ¬ F x l) : ms F' + 1 ≤ ms F := by
  have hl := hv x l h1
  have hlt := enc_lt hl
  refine cn_more 1296 (fun k _ hk => ?_) ⟨216 * x + enc l, by omega, ?_, ?_⟩
  · simp only [Bool.and_eq_true, Bool.not_eq_true'] at hk ⊢
    refine ⟨hk.1, ?_⟩
    cases hb : cB (F (k / 216)) (k % 216) with
    | false => rfl
    | true =>
      obtain ⟨l', h3, h4⟩ := cB_t.mp hb
      have := cB_t.mpr ⟨l', h _ _ h3, h4⟩
      rw [this] at hk
      exact hk.2
  · rw [show (216 * x + enc l) / 216 = x by omega, show (216 * x + enc l) % 216 = enc l by omega]
    simp only [Bool.and_eq_true, Bool.not_eq_true']
    refine ⟨vw_enc hl, ?_⟩
    cases hb : cB (F x) (enc l) with
    | false => rfl
    | true =>
      obtain ⟨l', h3, h4⟩ := cB_t.mp hb
      have e := enc_inj (hv x l' (h _ _ h3)) hl h4
      rw [e] at h3
      exact absurd h3 h2
  · rw [show (216 * x + enc l) / 216 = x by omega, show (216 * x + enc l) % 216 = enc l by omega, cB_t.mpr ⟨l, h1, rfl⟩]
    simp
def isFs (q : Nat) : Prop := (78 ≤ q ∧ q ≤ 89) ∨ (134 ≤ q ∧ q ≤ 137)
theorem gIFs {g : Nat} (hg : g < 6) : ∀ k, k < 6 → ¬ isFs (gId g k) := fun k hk => by unfold isFs gId; omega
/-- a set of a row of sets grows -/
def upW (F : Nat → WLs) (x : Nat) (A : WLs) : Nat → WLs := fun y => if y = x then uS (F y) A else F y
theorem upW_ge {F : Nat → WLs} {x : Nat} {A : WLs} (y : Nat) (l : List Nat) (h : F y l) : upW F x A y l := by
  unfold upW
  by_cases e : y = x
  · rw [if_pos e]; exact Or.inl h
  · rw [if_neg e]; exact h
theorem upW_same {F : Nat → WLs} {x : Nat} {A : WLs} (h : ∀ l, A l → F x l) : upW F x A = F := by
  funext y l
  unfold upW
  by_cases e : y = x
  · rw [if_pos e, e]
    exact propext ⟨fun h' => h'.elim id (h l), Or.inl⟩
  · rw [if_neg e]
theorem SW.up {o : Nat} {F : Nat → WLs} {A : WLs} {x : Nat} {s t : PH} (h : SW o F s) (hf : Fr (isWd (o + x)) s t) (hW : WSt (uS (F x) A) (o + x) t) : SW o (upW F x A) t := by
  intro y hy
  unfold upW
  by_cases e : y = x
  · rw [if_pos e, e]; exact hW
  · rw [if_neg e]; exact (h y hy).fr hf (isWd_ne (by omega))
theorem dropSix_c {s : PH} {o : Nat} {n a : Nat} (hn : 10 ≤ n) (t : PH) (F : Nat → WLs) (hf : Fr (fun q => 66 + 2 * o ≤ q ∧ q < 78 + 2 * o) s t) (ha : a < 6) (h : ∀ x, x < a → WSt W0 (o + x) t) : wp (fX10_drop n (o + a) t) (fun _ t' => Fr (fun q => 66 + 2 * o ≤ q ∧ q < 78 + 2 * o) s t' ∧ ∀ x, x < a + 1 → WSt W0 (o + x) t') := by
  refine wp_mono (drop_c hn) (fun _ t' h2 => ⟨hf.tr (h2.1.wk (fun q hq => by unfold isWd wId at hq; omega)), fun x hx => ?_⟩)
  by_cases e : x = a
  · rw [e]; exact h2.2
  · exact (h x (by omega)).fr h2.1 (isWd_ne (by omega))
theorem findFirsts_c {G : Gr} {g : Nat} {s : PH} (h : CG G g s) (hg : g < 6) (w : WG G) (hL : LW s) {n : Nat} (hn : 2000 ≤ n) : wp (fX3_findFirsts n g s) (fun _ t => Fr isFs s t ∧ SW 6 (FG G) t ∧ FOK G (FG G)) := by
  have h16 := w.1.2
  unfold fX3_findFirsts
  simp only [lt_def]
  refine wp_for2 6 (by omega) (fun j t => Fr (fun q => 66 + 2 * 6 ≤ q ∧ q < 78 + 2 * 6) s t ∧ ∀ x, x < j → WSt W0 (6 + x) t) ?_ ?_ n 0 s (by omega) ⟨Fr.rf, fun x hx => absurd hx (Nat.not_lt_zero x)⟩ (by omega)
  · rintro rec j t hj ⟨hf, hb⟩ ih
    simp (disch := omega) only [le_ok, if_neg, ra_ok]
    refine wp_call (dropSix_c (by omega) t (fun _ => W0) hf hj hb) (fun _ t2 h2 => ?_)
    simp only [nI_add]
    exact ih _ h2
  · rintro rec t ⟨hf0, hb⟩
    simp (disch := omega) only [le_ok, if_pos]
    have hf1 : Fr isFs s t := hf0.wk (fun q hq => by unfold isFs; omega)
    refine wp_for3 1000 (by omega) (fun r v t => ∃ F, Fr isFs s t ∧ SW 6 F t ∧ (∀ x, VS (F x)) ∧ (∀ C, FC G C → ∀ x l, F x l → C x l) ∧ ((v = nI 1 ∧ r + ms F ≤ 936) ∨ (v = nI 0 ∧ FC G F))) ?_ ?_ n 0 _ t (by omega) ⟨fun _ => W0, hf1, hb, fun _ _ h => h.elim, fun _ _ _ _ h => h.elim, Or.inl ⟨rfl, by have := ms_le (fun _ => W0); omega⟩⟩ (by omega)
    · rintro rec2 r v t hr ⟨F, hf, hS, hv, hlst, hcase⟩ ih
      simp (disch := omega) only [le_ok, if_neg]
      rcases hcase with ⟨rfl, hms⟩ | ⟨rfl, hC⟩
      · rw [if_neg n1_0]
        refine wp_for3 G.1 (by omega) (fun p v t => ∃ F', Fr isFs s t ∧ SW 6 F' t ∧ (∀ x, VS (F' x)) ∧ (∀ C, FC G C → ∀ x l, F' x l → C x l) ∧ ((v = nI 0 ∧ F' = F ∧ ∀ p', p' < p → ∀ l, pW G F p' l → F (G.2.1 p') l) ∨ (v = nI 1 ∧ ms F' + 1 ≤ ms F))) ?_ ?_ n 0 _ t (by omega) ⟨F, hf, hS, hv, hlst, Or.inl ⟨rfl, rfl, fun p' hp' => absurd hp' (Nat.not_lt_zero p')⟩⟩ (by omega)
        · rintro rec3 p v t hp ⟨F', hf, hS, hv, hlst, hcase⟩ ih3
          have hgt := h.fr hf (gIFs hg)
          have h6 := (w.2.1 p hp).1
          have hLt := hL.fr hf (fun q h1 h2 => by unfold isFs; omega)
          simp (disch := omega) only [count_c hgt, bd_ok, le_ok, if_neg, left_c hgt w hp, ra_ok]
          refine wp_call (putBefore_c hgt hg w hLt hS hLt.1 (by omega) hp (by omega)) (fun i t2 h2 => ?_)
          obtain ⟨hf2, hW2, hi⟩ := h2
          have hS2 : SW 6 F' t2 := hS.fr hf2 (fun q h1 h2 => by unfold isSc; omega)
          rw [pW_sqR w hv hp] at hW2
          refine wp_call (addAll_c (hS2 _ h6) hW2 (by omega) (by omega)) (fun rr t3 h3 => ?_)
          obtain ⟨hf3, hW3, hr3⟩ := h3
          simp only [jn_def, lt_def, nI_add]
          have hf3' : Fr isFs s t3 := (hf.tr (hf2.wk (fun q hq => by unfold isSc at hq; unfold isFs; omega))).tr (hf3.wk (fun q hq => by unfold isWd wId at hq; unfold isFs; omega))
          have hS3 := hS2.up hf3 hW3
          have hv3 : ∀ x, VS (upW F' (G.2.1 p) (pW G F' p) x) := by
            intro x
            unfold upW
            by_cases e : x = G.2.1 p
            · rw [if_pos e, e]; exact hW3.1
            · rw [if_neg e]; exact hv x
          have hl3 : ∀ C, FC G C → ∀ x l, upW F' (G.2.1 p) (pW G F' p) x l → C x l := by
            intro C hC x l hx
            unfold upW at hx
            by_cases e : x = G.2.1 p
            · rw [if_pos e] at hx
              rcases hx with hx | hx
              · exact hlst C hC x l hx
              · rw [e]
                exact hC p hp l (sqL.mono (hlst C hC) _ l hx)
            · rw [if_neg e] at hx
              exact hlst C hC x l hx
          by_cases hr0 : rr = 0
          · rw [if_pos hr0]
            have hno : ∀ l, pW G F' p l → F' (G.2.1 p) l := fun l hl => Classical.byContradiction (fun hc => hr3.eq hr0 ⟨l, hl, hc⟩)
            rw [upW_same hno] at hS3
            refine ih3 _ _ ⟨F', hf3', hS3, hv, hlst, ?_⟩
            rcases hcase with ⟨h1, rfl, h2⟩ | h1
            · refine Or.inl ⟨h1, rfl, fun p' hp' l hl => ?_⟩
              by_cases e : p' = p
              · subst e; exact hno l hl
              · exact h2 p' (by omega) l hl
            · exact Or.inr h1
          · rw [if_neg hr0]
            obtain ⟨l, hl1, hl2⟩ := hr3.ne hr0
            have hlt : ms (upW F' (G.2.1 p) (pW G F' p)) + 1 ≤ ms F' := ms_lt (fun x l hx => upW_ge x l hx) hv3 h6 (l := l) (by unfold upW; rw [if_pos rfl]; exact Or.inr hl1) hl2
            refine ih3 _ _ ⟨_, hf3', hS3, hv3, hl3, Or.inr ⟨rfl, ?_⟩⟩
            rcases hcase with ⟨_, rfl, _⟩ | ⟨_, h1⟩
            · exact hlt
            · omega
        · rintro rec3 v t ⟨F', hf, hS, hv, hlst, hcase⟩
          have hgt := h.fr hf (gIFs hg)
          simp (disch := omega) only [count_c hgt, bd_ok, le_ok, if_pos, nI_add, lt_def]
          refine ih _ _ ⟨F', hf, hS, hv, hlst, ?_⟩
          rcases hcase with ⟨h1, rfl, h2⟩ | ⟨h1, h2⟩
          · exact Or.inr ⟨h1, h2⟩
          · exact Or.inl ⟨h1, by omega⟩
      · rw [if_pos n0_0]
        have hok : FOK G F := ⟨hv, hC, hlst⟩
        refine wp_some ⟨hf, ?_, ?_⟩
        · rw [← hok.eq]; exact hS
        · rw [← hok.eq]; exact hok
    · rintro rec2 v t ⟨F, hf, hS, hv, hlst, hcase⟩
      simp (disch := omega) only [le_ok, if_pos]
      rcases hcase with ⟨rfl, hms⟩ | ⟨rfl, hC⟩
      · omega
      · have hok : FOK G F := ⟨hv, hC, hlst⟩
        refine wp_some ⟨hf, ?_, ?_⟩
        · rw [← hok.eq]; exact hS
        · rw [← hok.eq]; exact hok
