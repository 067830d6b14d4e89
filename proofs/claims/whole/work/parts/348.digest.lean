/-! ===== BOTH: the digest ===== -/
def mx (h : Int64) (v : Int32) : Int64 := (31 : Int64) * h + v.toInt64
def fo2 (F : Nat → Int64 → Int64) : Nat → Int64 → Int64
  | 0, h => h
  | j + 1, h => F j (fo2 F j h)
def fo1 (f : Nat → Int32) (m : Nat) (h : Int64) : Int64 := fo2 (fun j h => mx h (f j)) m h
theorem fo1_s (f : Nat → Int32) (m : Nat) (h : Int64) : fo1 f (m + 1) h = mx (fo1 f m h) (f m) := rfl
theorem fo1_0 (f : Nat → Int32) (h : Int64) : h = fo1 f 0 h := rfl
theorem fo1_d (f : Nat → Int32) (m : Nat) (h : Int64) : (31 : Int64) * fo1 f m h + (f m).toInt64 = fo1 f (m + 1) h := rfl
theorem fo2_0 (F : Nat → Int64 → Int64) (h : Int64) : h = fo2 F 0 h := rfl
theorem fo2_s (F : Nat → Int64 → Int64) (m : Nat) (h : Int64) : F m (fo2 F m h) = fo2 F (m + 1) h := rfl
theorem mx_d (h : Int64) (v : Int32) : (31 : Int64) * h + v.toInt64 = mx h v := rfl
/-- what is told of the whole -/
def tvl (G : Gr) (s : PH) (j : Nat) : Int32 := if j = 0 then nI G.1 else if j = 1 then nI (G.2.1 0) else if j = 2 then nI (mk (dfb G)) else if j = 3 then s.1 148 4 else if j = 4 then s.1 148 2 else s.1 148 7
noncomputable def cnw (G : Gr) (k z : Nat) : Int32 := nI (cn (cB (ctS k (zS G z))) 216)
/-- what is told of a nonterminal -/
noncomputable def nmv (G : Gr) (x v : Nat) : Int32 := if v = 0 then bI (dfb G x) else if v = 1 then bI (decide (fw G 1000000 x = 0)) else if v = 2 then bI (decide (fw G 1000000 x < 1000000)) else if v = 3 then bI (rI G 6 x) else if v = 4 then bI (clB false G (6 * x + x)) else if v = 5 then bI (clB true G (6 * x + x)) else if v = 6 then nI (cntP G x G.1) else if fw G 1000000 x < 1000000 then nI (fw G 1000000 x) else -9
noncomputable def hPr (G : Gr) (p : Nat) (h : Int64) : Int64 := fo1 (fun j => nI (mk (mB (AG G p) j))) 3 (fo1 (fun k => cnw G k (12 + p)) 4 (fo1 (fun i => nI (G.2.2.2 p i)) (G.2.2.1 p) (mx (mx h (nI (G.2.1 p))) (nI (G.2.2.1 p)))))
noncomputable def hNt (G : Gr) (f19 f20 pc : Nat → Int32) (x : Nat) (h : Int64) : Int64 := mx (mx (mx (mx (mx (fo1 (fun v => nmv G x (v + 1)) 7 (mx h (nI x))) (cnw G 3 x)) (cnw G 3 (6 + x))) (f19 x)) (f20 x)) (pc x)
noncomputable def hDg (G : Gr) (s : PH) (pc : Nat → Int32) (c : Nat) (K0 : Int64) : Int64 := mx (fo1 (s.1 152) c (mx (mx (fo2 (fun x h => if dfb G x = true then hNt G (s.1 19) (s.1 20) pc x h else h) 6 (fo2 (fun p h => hPr G p h) G.1 (fo1 (tvl G s) 6 K0))) (dpF G (s.1 19) 6 0 (nI 0))) (dpF G (s.1 20) 6 0 (nI 0)))) (s.1 148 5)
/-! the class -/
theorem has_t {G : Gr} {s : PH} (hX : XG G s) (w : WG G) {p : Nat} (hp : p < G.1) : fX4_has (s.2.2 0 8) (nI p) s = some (nI 1, s) := by
  have h16 := w.1.2
  unfold fX4_has
  rw [hX.2.1.1.1]
  simp (disch := omega) only [lt0_ok, if_false, le_ok, if_neg]
theorem isDef_t {G : Gr} {s : PH} (hX : XG G s) {x : Nat} (hx : x < 6) (hd : dfb G x = true) : fX11_isDefined (nI x) s = some (nI 1, s) := by
  rw [isDef_c hX hx, hd]
  rfl
theorem wordsA_c {G : Gr} {s : PH} (hX : XG G s) (w : WG G) {p k n : Nat} (hp : p < G.1) (hk : k < 4) (hn : 300 ≤ n) : fX11_words n (nI 2) (nI p) (nI k) s = some (cnw G k (12 + p), s) := by
  have h16 := w.1.2
  obtain ⟨_, _, z3⟩ := words_c hX hk hn
  unfold fX11_words
  rw [if_neg (nlt0 (by omega)), if_neg (by rw [lt_ok (by decide) (by omega)]; omega)]
  simp only [(isLook_t (s := s) hk).1, bd_ok, if_neg n1_0, jn_def, lt_def]
  rw [if_pos trivial]
  simp only [has_t hX w hp, bd_ok, if_neg n1_0, if_neg (show ¬ nI 2 = 0 by decide +kernel), if_neg (show ¬ nI 2 = nI 1 by decide +kernel)]
  unfold fX3_aheadOf
  simp (disch := omega) only [ra_ok, bd_ok, z3 p hp]
  rfl
theorem wordsF_c {G : Gr} {s : PH} (hX : XG G s) {x k n : Nat} (hx : x < 6) (hd : dfb G x = true) (hk : k < 4) (hn : 300 ≤ n) : fX11_words n (nI 0) (nI x) (nI k) s = some (cnw G k x, s) := by
  obtain ⟨z1, _, _⟩ := words_c hX hk hn
  unfold fX11_words
  rw [if_neg (nlt0 (by omega)), if_neg (by rw [lt_ok (by decide) (by omega)]; omega)]
  simp only [(isLook_t (s := s) hk).1, bd_ok, if_neg n1_0, jn_def, lt_def]
  rw [if_neg (show ¬ nI 0 = nI 2 by decide +kernel)]
  simp only [isDef_t hX hx hd, bd_ok, if_neg n1_0, if_pos n0_0]
  unfold fX3_firstOf
  simp (disch := omega) only [ra_ok, bd_ok, z1 x hx]
  rfl
theorem wordsO_c {G : Gr} {s : PH} (hX : XG G s) {x k n : Nat} (hx : x < 6) (hd : dfb G x = true) (hk : k < 4) (hn : 300 ≤ n) : fX11_words n (nI 1) (nI x) (nI k) s = some (cnw G k (6 + x), s) := by
  obtain ⟨_, z2, _⟩ := words_c hX hk hn
  unfold fX11_words
  rw [if_neg (nlt0 (by omega)), if_neg (by rw [lt_ok (by decide) (by omega)]; omega)]
  simp only [(isLook_t (s := s) hk).1, bd_ok, if_neg n1_0, jn_def, lt_def]
  rw [if_neg (show ¬ nI 1 = nI 2 by decide +kernel)]
  simp only [isDef_t hX hx hd, bd_ok, if_neg n1_0, if_true]
  unfold fX3_followOf
  simp (disch := omega) only [ra_ok, bd_ok, z2 x hx]
  rfl
theorem marksD_c {G : Gr} {s : PH} (hX : XG G s) (w : WG G) {p j n : Nat} (hp : p < G.1) (hj : j < 3) (hn : 300 ≤ n) : fX11_marks n (nI p) (nI j) s = some (nI (mk (mB (AG G p) j)), s) := by
  have h16 := w.1.2
  unfold fX11_marks
  simp only [lt_def, has_t hX w hp, bd_ok, if_neg n1_0]
  rw [if_neg (nlt0 (by omega)), if_pos (by rw [lt_ok (by omega) (by decide)]; omega)]
  unfold fX3_aheadOf
  simp (disch := omega) only [ra_ok, bd_ok, marksAt_a hX hp hj hn]
theorem told_v {G : Gr} {L : Nat} {tx : Nat → Nat} {s : PH} (hX : XG G s) (w : WG G) (hT : TX L tx s) (hC : CHs s) (hH : HS s) {j : Nat} (hj : j < 6) : fX11_told (nI j) s = some (tvl G s j, s) := by
  unfold fX11_told tvl
  have : j = 0 ∨ j = 1 ∨ j = 2 ∨ j = 3 ∨ j = 4 ∨ j = 5 := by omega
  rcases this with rfl | rfl | rfl | rfl | rfl | rfl
  · rw [if_pos rfl, lt_def, count_c hX.2.1, bd_ok]; rfl
  · rw [if_neg (by decide +kernel), if_pos rfl, lt_def, start_c hX.2.1 w, bd_ok]; rfl
  · rw [if_neg (by decide +kernel), if_neg (by decide +kernel), if_pos rfl, lt_def, defined_c hX.2.1, bd_ok]; rfl
  · rw [if_neg (by decide +kernel), if_neg (by decide +kernel), if_neg (by decide +kernel), if_pos rfl]
    unfold fX8_size
    rw [bd_ok, hT.2.1, ← hT.2.2.1]; rfl
  · rw [if_neg (by decide +kernel), if_neg (by decide +kernel), if_neg (by decide +kernel), if_neg (by decide +kernel), if_pos rfl]
    obtain ⟨h, _, h1, h2, _⟩ := hH
    unfold fX5_count
    rw [bd_ok, h1, ← h2]; rfl
  · rw [if_neg (by decide +kernel), if_neg (by decide +kernel), if_neg (by decide +kernel), if_neg (by decide +kernel), if_neg (by decide +kernel), if_pos rfl]
    obtain ⟨c, _, h1, h2, _⟩ := hC
    unfold fX6_count
    rw [bd_ok, h1, ← h2]; rfl
theorem tell_v {G : Gr} {s : PH} (hM : MLd G s) (w : WG G) {j n : Nat} (hj : j < 6) (hn : 30 ≤ n) : fX12_tell n (nI j) s = some (tvl G s j, s) := by
  by_cases h2 : j = 2
  · subst h2
    rw [set_m hM w hn]; rfl
  · unfold fX12_tell tvl
    have : j = 0 ∨ j = 1 ∨ j = 3 ∨ j = 4 ∨ j = 5 := by omega
    rcases this with rfl | rfl | rfl | rfl | rfl
    · rw [if_pos rfl, many_e hM.1, bd_ok]; rfl
    · rw [if_neg (by decide +kernel), if_pos rfl, start_e hM.1 w, bd_ok]; rfl
    · rw [if_neg (by decide +kernel), if_neg (by decide +kernel), if_neg (by decide +kernel), if_pos rfl]; rfl
    · rw [if_neg (by decide +kernel), if_neg (by decide +kernel), if_neg (by decide +kernel), if_neg (by decide +kernel), if_pos rfl]; rfl
    · rw [if_neg (by decide +kernel), if_neg (by decide +kernel), if_neg (by decide +kernel), if_neg (by decide +kernel), if_neg (by decide +kernel), if_pos rfl]; rfl
theorem mixP_c {G : Gr} {s : PH} (hX : XG G s) (w : WG G) {p n : Nat} (hp : p < G.1) (hn : 300 ≤ n) (u : Int64) : fX11_mixProduction n u (nI p) s = some (hPr G p u, s) := by
  have h16 := w.1.2
  have h5 := (w.2.1 p hp).2
  have key : wp (fX11_mixProduction n u (nI p) s) (fun r t => t = s ∧ r = hPr G p u) := by
    unfold fX11_mixProduction
    rw [lt_def, left_c hX.2.1 w hp, bd_ok, lt_def, lt_def, length_c hX.2.1 w hp, bd_ok, lt_def, lt_def]
    refine wp_for3 (G.2.2.1 p) (by omega) (fun i v t => t = s ∧ v = fo1 (fun i => nI (G.2.2.2 p i)) i (mx (mx u (nI (G.2.1 p))) (nI (G.2.2.1 p)))) ?_ ?_ n 0 _ s (Nat.zero_le _) ⟨rfl, rfl⟩ (by omega)
    · rintro rec i v t hi ⟨rfl, rfl⟩ ih
      rw [lt_def, length_c hX.2.1 w hp, bd_ok, if_neg (by rw [le_ok (by omega) (by omega)]; omega), lt_def, symbolAt_c hX.2.1 w hp hi, bd_ok, lt_def, lt_def, nI_add]
      exact ih _ _ ⟨rfl, rfl⟩
    · rintro rec v t ⟨rfl, rfl⟩
      rw [lt_def, length_c hX.2.1 w hp, bd_ok, if_pos (by rw [le_ok (by omega) (by omega)]; exact Nat.le_refl _), lt_def]
      refine wp_for3 4 (by omega) (fun k v t' => t' = t ∧ v = fo1 (fun k => cnw G k (12 + p)) k (fo1 (fun i => nI (G.2.2.2 p i)) (G.2.2.1 p) (mx (mx u (nI (G.2.1 p))) (nI (G.2.2.1 p))))) ?_ ?_ n 0 _ t (by omega) ⟨rfl, rfl⟩ (by omega)
      · rintro rec2 k v t' hk ⟨rfl, rfl⟩ ih
        rw [if_neg (by rw [lt_ok (by decide) (by omega)]; omega), wordsA_c hX w hp hk hn, bd_ok, lt_def, lt_def, nI_add]
        exact ih _ _ ⟨rfl, rfl⟩
      · rintro rec2 v t' ⟨rfl, rfl⟩
        rw [if_pos (by rw [lt_ok (by decide) (by decide)]; decide), lt_def]
        refine wp_for3 3 (by omega) (fun j v t2 => t2 = t' ∧ v = fo1 (fun j => nI (mk (mB (AG G p) j))) j (fo1 (fun k => cnw G k (12 + p)) 4 (fo1 (fun i => nI (G.2.2.2 p i)) (G.2.2.1 p) (mx (mx u (nI (G.2.1 p))) (nI (G.2.2.1 p)))))) ?_ ?_ n 0 _ t' (by omega) ⟨rfl, rfl⟩ (by omega)
        · rintro rec3 j v t2 hj ⟨rfl, rfl⟩ ih
          rw [if_neg (by rw [le_ok (by decide) (by omega)]; omega), marksD_c hX w hp hj hn, bd_ok, lt_def, lt_def, nI_add]
          exact ih _ _ ⟨rfl, rfl⟩
        · rintro rec3 v t2 ⟨rfl, rfl⟩
          rw [if_pos (by rw [le_ok (by decide) (by decide)]; exact Nat.le_refl _)]
          exact wp_some ⟨rfl, rfl⟩
  obtain ⟨r, t, e, rfl, rfl⟩ := key
  exact e
theorem mixN_c {G : Gr} {s : PH} {pc : Nat → Int32} (hX : XG G s) (w : WG G) (hpc : ∀ x, x < 6 → PCL G x 3 (pc x)) {x n : Nat} (hx : x < 6) (hd : dfb G x = true) (hn : 300 ≤ n) (u : Int64) : fX11_mixNonterminal n u (nI x) s = some (hNt G (s.1 19) (s.1 20) pc x u, s) := by
  have key : wp (fX11_mixNonterminal n u (nI x) s) (fun r t => t = s ∧ r = hNt G (s.1 19) (s.1 20) pc x u) := by
    unfold fX11_mixNonterminal
    rw [lt_def, lt_def]
    refine wp_for3 8 (by omega) (fun v r t => 1 ≤ v ∧ t = s ∧ r = fo1 (fun v => nmv G x (v + 1)) (v - 1) (mx u (nI x))) ?_ ?_ n 1 _ s (by omega) ⟨Nat.le_refl _, rfl, rfl⟩ (by omega)
    · rintro rec v r t hv ⟨h1, rfl, rfl⟩ ih
      rw [if_neg (by rw [lt_ok (by decide) (by omega)]; omega), name_c hX w hx (by omega), bd_ok, lt_def, lt_def, nI_add]
      refine ih _ _ ⟨by omega, rfl, ?_⟩
      obtain ⟨v', rfl⟩ : ∃ v', v = v' + 1 := ⟨v - 1, by omega⟩
      rfl
    · rintro rec r t ⟨_, rfl, rfl⟩
      rw [if_pos (by rw [lt_ok (by decide) (by decide)]; decide), wordsF_c hX hx hd (by decide) hn, bd_ok, lt_def, wordsO_c hX hx hd (by decide) hn, bd_ok, lt_def]
      unfold fX11_depth fX11_approximate fX11_clash fX3_depthOf fX3_roughDepthOf
      obtain ⟨c, e1, w1⟩ := firstClash_c hX.2.1 w hX.2.2.2.2.2.2.1 hx (show 3 < 4 by decide) (show 20 ≤ n by omega)
      rw [isDef_t hX hx hd, bd_ok, if_neg n1_0, ra_ok _ _ hx (by decide), bd_ok, bd_ok, lt_def, isDef_t hX hx hd, bd_ok, if_neg n1_0, ra_ok _ _ hx (by decide), bd_ok, bd_ok, lt_def, isDef_t hX hx hd, bd_ok, if_neg n1_0, (isLook_t (s := t) (show 3 < 4 by decide)).1, bd_ok, if_neg n1_0, lt_def, e1, bd_ok, bd_ok, w1.uniq (hpc x hx)]
      exact wp_some ⟨rfl, rfl⟩
  obtain ⟨r, t, e, rfl, rfl⟩ := key
  exact e
theorem digest_c {G : Gr} {L c : Nat} {tx : Nat → Nat} {s : PH} {pc : Nat → Int32} (hX : XG G s) (w : WG G) (hT : TX L tx s) (hC : CHs s) (hH : HS s) (hpc : ∀ x, x < 6 → PCL G x 3 (pc x)) (hc60 : c ≤ 60) (hc : s.1 21 3 = nI c) (hci : ∀ i, i < c → s.1 23 i = s.1 152 i) (hkd : s.1 3 2 = s.1 148 5) {n : Nat} (hn : 300 ≤ n) : fX11_digest n s = some (hDg G s pc c (17313 : Int64), s) := by
  have h16 := w.1.2
  have key : wp (fX11_digest n s) (fun r t => t = s ∧ r = hDg G s pc c (17313 : Int64)) := by
    unfold fX11_digest
    generalize (17313 : Int64) = K0
    rw [lt_def, lt_def]
    refine wp_for3 6 (by omega) (fun j v t => t = s ∧ v = fo1 (tvl G s) j K0) ?_ ?_ n 0 _ s (by omega) ⟨rfl, fo1_0 _ _⟩ (by omega)
    · rintro rec j v t hj ⟨rfl, rfl⟩ ih
      rw [if_neg (by rw [lt_ok (by decide) (by omega)]; omega), told_v hX w hT hC hH hj, bd_ok, lt_def, lt_def, nI_add]
      exact ih _ _ ⟨rfl, fo1_d _ _ _⟩
    · rintro rec v t ⟨rfl, rfl⟩
      rw [if_pos (by rw [lt_ok (by decide) (by decide)]; decide), lt_def]
      refine wp_for3 G.1 (by omega) (fun p v t' => t' = t ∧ v = fo2 (fun p h => hPr G p h) p (fo1 (tvl G t) 6 K0)) ?_ ?_ n 0 _ t (Nat.zero_le _) ⟨rfl, fo2_0 _ _⟩ (by omega)
      · rintro rec2 p v t' hp ⟨rfl, rfl⟩ ih
        rw [lt_def, count_c hX.2.1, bd_ok, if_neg (by rw [le_ok (by omega) (by omega)]; omega), mixP_c hX w hp hn, bd_ok, lt_def, lt_def, nI_add]
        exact ih _ _ ⟨rfl, fo2_s (fun p h => hPr G p h) _ _⟩
      · rintro rec2 v t' ⟨rfl, rfl⟩
        rw [lt_def, count_c hX.2.1, bd_ok, if_pos (by rw [le_ok (by omega) (by omega)]; exact Nat.le_refl _), lt_def]
        refine wp_for3 6 (by omega) (fun x v t2 => t2 = t' ∧ v = fo2 (fun x h => if dfb G x = true then hNt G (t'.1 19) (t'.1 20) pc x h else h) x (fo2 (fun p h => hPr G p h) G.1 (fo1 (tvl G t') 6 K0))) ?_ ?_ n 0 _ t' (by omega) ⟨rfl, fo2_0 _ _⟩ (by omega)
        · rintro rec3 x v t2 hx ⟨rfl, rfl⟩ ih
          rw [if_neg (by rw [le_ok (by decide) (by omega)]; omega), isDef_c hX hx, bd_ok]
          simp only [jn_def, lt_def, nI_add]
          cases hd : dfb G x with
          | false =>
            rw [bI_f, if_pos n0_0]
            refine ih _ _ ⟨rfl, ?_⟩
            rw [← fo2_s]
            rw [hd, if_neg (by decide)]
          | true =>
            rw [bI_t, if_neg n1_0, mixN_c hX w hpc hx hd hn, bd_ok]
            refine ih _ _ ⟨rfl, ?_⟩
            rw [← fo2_s]
            rw [hd, if_pos rfl]
        · rintro rec3 v t2 ⟨rfl, rfl⟩
          have d0 := deepest_c hX hn (nI 0)
          have d1 := deepest_c hX hn (nI 1)
          rw [if_pos n0_0] at d0
          rw [if_neg n1_0] at d1
          rw [if_pos (by rw [le_ok (by decide) (by decide)]; exact Nat.le_refl _), d0, bd_ok, lt_def, d1, bd_ok, lt_def, lt_def]
          obtain ⟨H, hH'⟩ : ∃ H, H = mx (mx (fo2 (fun x h => if dfb G x = true then hNt G (t2.1 19) (t2.1 20) pc x h else h) 6 (fo2 (fun p h => hPr G p h) G.1 (fo1 (tvl G t2) 6 K0))) (dpF G (t2.1 19) 6 0 (nI 0))) (dpF G (t2.1 20) 6 0 (nI 0)) := ⟨_, rfl⟩
          refine wp_for3 c (by omega) (fun i v t3 => t3 = t2 ∧ v = fo1 (t2.1 152) i H) ?_ ?_ n 0 _ t2 (Nat.zero_le _) ⟨rfl, by rw [← fo1_0, hH', mx_d, mx_d]⟩ (by omega)
          · rintro rec4 i v t3 hi ⟨rfl, rfl⟩ ih
            unfold fX6_count fX6_choice
            rw [bd_ok, hc, if_neg (by rw [le_ok (by omega) (by omega)]; omega), ra_ok _ _ (by omega) (by decide), bd_ok, lt_def, lt_def, nI_add, hci i hi]
            exact ih _ _ ⟨rfl, fo1_d _ _ _⟩
          · rintro rec4 v t3 ⟨rfl, rfl⟩
            unfold fX6_count fX11_fault fX7_kind
            rw [bd_ok, hc, if_pos (by rw [le_ok (by omega) (by omega)]; exact Nat.le_refl _), bd_ok, bd_ok, hkd]
            refine wp_some ⟨rfl, ?_⟩
            unfold hDg
            rw [hH', mx_d]
  obtain ⟨r, t, e, rfl, rfl⟩ := key
  exact e
/-! the reference -/
theorem sl_sl (s : PH) (q k : Nat) (u v : Int64) : sl (sl s q k u) q k v = sl s q k v := by
  unfold sl
  refine Prod.ext rfl (Prod.ext ?_ rfl)
  show pset (pset s.2.1 q k u) q k v = pset s.2.1 q k v
  funext a b
  unfold pset
  by_cases ha : a = q
  · rw [if_pos ha, if_pos ha]
    by_cases hb : b = k
    · rw [if_pos hb, if_pos hb]
    · rw [if_neg hb, if_neg hb, if_pos rfl, if_neg hb]
  · rw [if_neg ha, if_neg ha, if_neg ha]
theorem mix_m (s : PH) (u : Int64) (v : Int32) : fX12_mix v (sl s 148 32 u) = some ((), sl s 148 32 (mx u v)) := by
  unfold fX12_mix
  have e : (sl s 148 32 u).2.1 148 32 = u := by rw [sl_q]; dsimp only; rw [if_pos rfl]
  rw [lt_def, e, sl_sl]
  rfl
theorem digest_m {G : Gr} {c : Nat} {s : PH} {pc : Nat → Int32} (hX : XG G s) (hK : GK G) (hM : MLd G s) (hpc : ∀ x, x < 6 → PCL G x 3 (pc x)) (hc60 : c ≤ 60) (hc : s.1 148 7 = nI c) {n : Nat} (hn : 300 ≤ n) : wp (fX12_digest n s) (fun r t => r = hDg G s pc c (17313 : Int64) ∧ ∃ u, t = sl s 148 32 u) := by
  have w := hK.1
  have h16 := w.1.2
  have fT : ∀ u, Fr (fun q => q = 148) s (sl s 148 32 u) := fun u => Fr.sl rfl
  have XT : ∀ u, XG G (sl s 148 32 u) := fun u => hX.fr w (fT u) (fun q hq => by omega)
  have MT : ∀ u, MLd G (sl s 148 32 u) := fun u => hM.fr (fT u) (fun q hq => by omega)
  unfold fX12_digest
  generalize (17313 : Int64) = K0
  rw [lt_def, lt_def]
  refine wp_for2 6 (by omega) (fun j t => t = sl s 148 32 (fo1 (tvl G s) j K0)) ?_ ?_ n 0 _ (by omega) (by rw [← fo1_0]) (by omega)
  · rintro rec j t hj rfl ih
    rw [if_neg (by rw [le_ok (by decide) (by omega)]; omega), tell_v (MT _) w hj (by omega), bd_ok, mix_m, bd_ok, lt_def, nI_add]
    have e : ∀ u, tvl G (sl s 148 32 u) j = tvl G s j := fun _ => rfl
    exact ih _ (by rw [fo1_s, e])
  · rintro rec t rfl
    rw [if_pos (by rw [le_ok (by decide) (by decide)]; exact Nat.le_refl _), lt_def]
    refine wp_for2 G.1 (by omega) (fun p t => t = sl s 148 32 (fo2 (fun p h => hPr G p h) p (fo1 (tvl G s) 6 K0))) ?_ ?_ n 0 _ (Nat.zero_le _) (by rw [← fo2_0]) (by omega)
    · rintro rec2 p t hp rfl ih
      have h5 := (w.2.1 p hp).2
      obtain ⟨U, hU⟩ : ∃ U, U = fo2 (fun p h => hPr G p h) p (fo1 (tvl G s) 6 K0) := ⟨_, rfl⟩
      rw [← hU]
      rw [many_e (MT _).1, bd_ok, if_neg (by rw [le_ok (by omega) (by omega)]; omega), left_e (MT _).1 w hp, bd_ok, mix_m, bd_ok, size_e (MT _).1 w hp, bd_ok, mix_m, bd_ok, lt_def]
      refine wp_for2 (G.2.2.1 p) (by omega) (fun i t => t = sl s 148 32 (fo1 (fun i => nI (G.2.2.2 p i)) i (mx (mx U (nI (G.2.1 p))) (nI (G.2.2.1 p))))) ?_ ?_ n 0 _ (Nat.zero_le _) (by rw [← fo1_0]) (by omega)
      · rintro rec3 i t hi rfl ih3
        rw [size_e (MT _).1 w hp, bd_ok, if_neg (by rw [le_ok (by omega) (by omega)]; omega), at_e (MT _).1 w hp hi, bd_ok, mix_m, bd_ok, lt_def, nI_add]
        exact ih3 _ (by rw [fo1_s])
      · rintro rec3 t rfl
        rw [size_e (MT _).1 w hp, bd_ok, if_pos (by rw [le_ok (by omega) (by omega)]; exact Nat.le_refl _), lt_def]
        refine wp_for2 4 (by omega) (fun k t => t = sl s 148 32 (fo1 (fun k => cnw G k (12 + p)) k (fo1 (fun i => nI (G.2.2.2 p i)) (G.2.2.1 p) (mx (mx U (nI (G.2.1 p))) (nI (G.2.2.1 p)))))) ?_ ?_ n 0 _ (by omega) (by rw [← fo1_0]) (by omega)
        · rintro rec4 k t hk rfl ih4
          rw [if_neg (by rw [le_ok (by decide) (by omega)]; omega), nI_mulN, nI_add, show 2592 + 216 * p = 216 * (12 + p) by omega, count_m (MT _) (show 12 + p < 28 by omega) hk hn, bd_ok, mix_m, bd_ok, lt_def, nI_add]
          exact ih4 _ (by rw [fo1_s]; rfl)
        · rintro rec4 t rfl
          rw [if_pos (by rw [le_ok (by decide) (by decide)]; exact Nat.le_refl _), lt_def]
          refine wp_for2 3 (by omega) (fun j t => t = sl s 148 32 (fo1 (fun j => nI (mk (mB (AG G p) j))) j (fo1 (fun k => cnw G k (12 + p)) 4 (fo1 (fun i => nI (G.2.2.2 p i)) (G.2.2.1 p) (mx (mx U (nI (G.2.1 p))) (nI (G.2.2.1 p))))))) ?_ ?_ n 0 _ (by omega) (by rw [← fo1_0]) (by omega)
          · rintro rec5 j t hj rfl ih5
            rw [if_neg (by rw [le_ok (by decide) (by omega)]; omega), marksOf_m hK (MT _) hp hj hn, bd_ok, mix_m, bd_ok, lt_def, nI_add]
            exact ih5 _ (by rw [fo1_s (fun j => nI (mk (mB (AG G p) j))) j])
          · rintro rec5 t rfl
            rw [if_pos (by rw [le_ok (by decide) (by decide)]; exact Nat.le_refl _), lt_def, nI_add]
            refine ih _ ?_
            rw [← fo2_s, ← hU]
            unfold hPr
            rfl
    · rintro rec2 t rfl
      rw [many_e (MT _).1, bd_ok, if_pos (by rw [le_ok (by omega) (by omega)]; exact Nat.le_refl _), lt_def]
      refine wp_for2 6 (by omega) (fun x t => t = sl s 148 32 (fo2 (fun x h => if dfb G x = true then hNt G (s.1 19) (s.1 20) pc x h else h) x (fo2 (fun p h => hPr G p h) G.1 (fo1 (tvl G s) 6 K0)))) ?_ ?_ n 0 _ (by omega) (by rw [← fo2_0]) (by omega)
      · rintro rec3 x t hx rfl ih
        obtain ⟨U, hU⟩ : ∃ U, U = fo2 (fun x h => if dfb G x = true then hNt G (s.1 19) (s.1 20) pc x h else h) x (fo2 (fun p h => hPr G p h) G.1 (fo1 (tvl G s) 6 K0)) := ⟨_, rfl⟩
        have nx : ∀ V, V = (if dfb G x = true then hNt G (s.1 19) (s.1 20) pc x U else U) → wp (rec3 (nI (x + 1)) (sl s 148 32 V)) (fun r t => r = hDg G s pc c K0 ∧ ∃ u, t = sl s 148 32 u) := by
          intro V hV
          refine ih _ ?_
          rw [hV, hU, ← fo2_s]
        rw [← hU]
        rw [if_neg (by rw [le_ok (by decide) (by omega)]; omega), isDef_m (MT _) w hx (by omega), bd_ok]
        refine wp_jn1 (fun t => t = sl s 148 32 (if dfb G x = true then hNt G (s.1 19) (s.1 20) pc x U else U)) ?_ ?_
        · rintro t rfl
          rw [lt_def, nI_add]
          exact nx _ rfl
        · intro j33 hj33
          cases hd : dfb G x with
          | false =>
            rw [hd, if_neg (by decide)] at hj33
            rw [bI_f, if_pos n0_0]
            exact hj33 _ rfl
          | true =>
            rw [hd, if_pos rfl] at hj33
            rw [bI_t, if_neg n1_0, mix_m, bd_ok, lt_def]
            refine wp_for2 8 (by omega) (fun v t => 1 ≤ v ∧ t = sl s 148 32 (fo1 (fun v => nmv G x (v + 1)) (v - 1) (mx U (nI x)))) ?_ ?_ n 1 _ (by omega) ⟨Nat.le_refl _, by rw [← fo1_0]⟩ (by omega)
            · rintro rec4 v t hv ⟨h1, rfl⟩ ih4
              rw [if_neg (by rw [le_ok (by decide) (by omega)]; omega), name_m (MT _) w hx (by omega) (by omega), bd_ok, mix_m, bd_ok, lt_def, nI_add]
              refine ih4 _ ⟨by omega, ?_⟩
              obtain ⟨v', rfl⟩ : ∃ v', v = v' + 1 := ⟨v - 1, by omega⟩
              rw [show v' + 1 + 1 - 1 = v' + 1 by omega, fo1_s, show v' + 1 - 1 = v' by omega]
              rfl
            · rintro rec4 t ⟨_, rfl⟩
              obtain ⟨V, hV⟩ : ∃ V, V = fo1 (fun v => nmv G x (v + 1)) (8 - 1) (mx U (nI x)) := ⟨_, rfl⟩
              rw [← hV]
              rw [if_pos (by rw [le_ok (by decide) (by decide)]; exact Nat.le_refl _), nI_mulN, count_m (MT _) (show x < 28 by omega) (show 3 < 4 by decide) hn, bd_ok, mix_m, bd_ok, nI_add, show 1296 + 216 * x = 216 * (6 + x) by omega, count_m (MT _) (show 6 + x < 28 by omega) (show 3 < 4 by decide) hn, bd_ok, mix_m, bd_ok, depthOf_m (XT _) hK (MT _) hx hn, bd_ok, mix_m, bd_ok, approxOf_m (XT _) hK (MT _) hx hn, bd_ok, mix_m, bd_ok]
              simp only [sl_1]
              obtain ⟨r, e1, w1⟩ := pairOf_m hK (MT (mx (mx (mx (mx V (nI (cn (cB (ctS 3 (zS G x))) 216))) (nI (cn (cB (ctS 3 (zS G (6 + x)))) 216))) (s.1 19 x)) (s.1 20 x))) hx (show 3 < 4 by decide) hn
              rw [e1, bd_ok, mix_m, bd_ok, w1.uniq (hpc x hx)]
              refine hj33 _ ?_
              unfold hNt
              rw [hV]
              rfl
      · rintro rec3 t rfl
        obtain ⟨U, hU⟩ : ∃ U, U = fo2 (fun x h => if dfb G x = true then hNt G (s.1 19) (s.1 20) pc x h else h) 6 (fo2 (fun p h => hPr G p h) G.1 (fo1 (tvl G s) 6 K0)) := ⟨_, rfl⟩
        rw [← hU]
        have d0 : ∀ u, fX12_deepest n (nI 0) (sl s 148 32 u) = some (dpF G (s.1 19) 6 0 (nI 0), sl s 148 32 u) := fun u => by
          have := deepest_m (XT u) hK (MT u) hn (nI 0)
          rw [if_pos n0_0] at this
          exact this
        have d1 : ∀ u, fX12_deepest n (nI 1) (sl s 148 32 u) = some (dpF G (s.1 20) 6 0 (nI 0), sl s 148 32 u) := fun u => by
          have := deepest_m (XT u) hK (MT u) hn (nI 1)
          rw [if_neg n1_0] at this
          exact this
        rw [if_pos (by rw [le_ok (by decide) (by decide)]; exact Nat.le_refl _), d0, bd_ok, mix_m, bd_ok, d1, bd_ok, mix_m, bd_ok, lt_def]
        refine wp_for2 c (by omega) (fun i t => t = sl s 148 32 (fo1 (s.1 152) i (mx (mx U (dpF G (s.1 19) 6 0 (nI 0))) (dpF G (s.1 20) 6 0 (nI 0))))) ?_ ?_ n 0 _ (Nat.zero_le _) (by rw [← fo1_0]) (by omega)
        · rintro rec4 i t hi rfl ih
          rw [sl_1, hc, if_neg (by rw [le_ok (by omega) (by omega)]; omega), ra_ok _ _ (by omega) (by decide), mix_m, bd_ok, lt_def, nI_add]
          exact ih _ (by rw [fo1_s])
        · rintro rec4 t rfl
          rw [sl_1, hc, if_pos (by rw [le_ok (by omega) (by omega)]; exact Nat.le_refl _), mix_m, bd_ok]
          have e : ∀ u, (sl s 148 32 u).2.1 148 32 = u := fun u => by rw [sl_q]; dsimp only; rw [if_pos rfl]
          rw [e]
          refine wp_some ⟨?_, _, rfl⟩
          unfold hDg
          rw [hU]
theorem digest_b {s : PH} (hI : INV s) {n : Nat} (hn : 300 ≤ n) : ∃ r s1 s2, fX11_digest n s = some (r, s1) ∧ fX12_digest n s1 = some (r, s2) ∧ INV s2 := by
  obtain ⟨G, L, tx, hK, hX, hM, hT, hkd, hCH, hH, hID, hE, hDI, hAM⟩ := id hI
  have w := hK.1
  obtain ⟨c, hc60, c1, c2, c3⟩ := id hCH
  have hex : ∀ x, ∃ r, x < 6 → PCL G x 3 r := by
    intro x
    by_cases hx : x < 6
    · obtain ⟨r, _, w1⟩ := pairOf_m (n := n) hK hM hx (show 3 < 4 by decide) hn
      exact ⟨r, fun _ => w1⟩
    · exact ⟨0, fun h => absurd h hx⟩
  have hpc : ∀ x, x < 6 → PCL G x 3 (Classical.choose (hex x)) := fun x hx => Classical.choose_spec (hex x) hx
  obtain ⟨r, s2, e2, er, u, es⟩ := digest_m hX hK hM hpc hc60 c2 hn
  refine ⟨r, s, s2, ?_, e2, ?_⟩
  · rw [digest_c hX w hT hCH hH hpc hc60 c1 c3 hkd hn, er]
  · have f : Fr (fun q => q = 148) s s2 := by rw [es]; exact Fr.sl rfl
    have e1 : s2.1 = s.1 := by rw [es]; rfl
    exact ⟨G, L, tx, hK, hX.fr w f (fun q hq => by omega), hM.fr f (fun q hq => by omega), hT.fr f (by omega) (by omega) (by omega) (by rw [e1]), by rw [e1]; exact hkd, hCH.fr f (by omega) (by omega) (by omega) (by rw [e1]), hH.fr hID f (by omega) (by omega) (by omega) (by rw [e1]) (fun q _ _ => by omega), hID.fr f (by omega) (by omega) (by omega), hE.fr f (by omega), hDI.fr f (by omega) (by omega) (by omega) (by omega) (by omega), hAM.fr f (by omega)⟩
