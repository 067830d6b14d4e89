/-! ===== BOTH: marks, depths, clashes ===== -/
theorem enc_at {l : List Nat} (h : VL l) {j : Nat} (hj : j < l.length) : ∃ i, l[j]? = some i ∧ i < 5 ∧ enc (l.take (j + 1)) % 6 = i + 1 := by
  rcases h.c with rfl | ⟨x, hx, rfl⟩ | ⟨x, y, hx, hy, rfl⟩ | ⟨x, y, z, hx, hy, hz, rfl⟩
  · exact absurd hj (Nat.not_lt_zero j)
  · have : j = 0 := by simp only [List.length] at hj; omega
    subst this
    exact ⟨x, rfl, hx, by simp only [List.take, enc]; omega⟩
  · have : j = 0 ∨ j = 1 := by simp only [List.length] at hj; omega
    rcases this with rfl | rfl
    · exact ⟨x, rfl, hx, by simp only [List.take, enc]; omega⟩
    · exact ⟨y, rfl, hy, by simp only [List.take, enc]; omega⟩
  · have : j = 0 ∨ j = 1 ∨ j = 2 := by simp only [List.length] at hj; omega
    rcases this with rfl | rfl | rfl
    · exact ⟨x, rfl, hx, by simp only [List.take, enc]; omega⟩
    · exact ⟨y, rfl, hy, by simp only [List.take, enc]; omega⟩
    · exact ⟨z, rfl, hz, by simp only [List.take, enc]; omega⟩
/-- the marks of the words with numbers below c -/
noncomputable def mBc (W : WLs) (j c i : Nat) : Bool := if i < 5 then pB (∃ l, W l ∧ enc l < c ∧ l[j]? = some i) else pB (∃ l, W l ∧ enc l < c ∧ l.length ≤ j)
theorem mk_32 : nI 32 = nI (mk (fun i => decide (i = 5))) := by decide +kernel
section
variable {G : Gr} {s : PH}
theorem marksOf_m (hK : GK G) (hM : MLd G s) {p j n : Nat} (hp : p < G.1) (hj : j < 3) (hn : 300 ≤ n) : fX12_marksOf n (nI p) (nI j) s = some (nI (mk (mB (AG G p) j)), s) := by
  have h16 := hK.1.1.2
  have hv := vsA hK hp
  have key : wp (fX12_marksOf n (nI p) (nI j) s) (fun r t => t = s ∧ r = nI (mk (mB (AG G p) j))) := by
    unfold fX12_marksOf
    simp only [lt_def]
    refine wp_for3 216 (by omega) (fun c v t => t = s ∧ v = nI (mk (mBc (AG G p) j c))) ?_ ?_ n 0 _ s (by omega) ⟨rfl, ?_⟩ (by omega)
    · rintro rec c v t hc ⟨rfl, rfl⟩ ih
      have hpb : PB (t.1 160 (216 * p + c)) (cd (AG G p) c) := by
        have := (hM.2.2.2.2.2.2.2.2.1 p (by omega)).pb hc
        rw [if_pos hp] at this
        exact this
      have hlo := lo_le c
      simp (disch := omega) only [le_ok, if_neg, nI_mulN, nI_add, ra_ok, jn_def]
      by_cases h0 : t.1 160 (216 * p + c) = 0
      · rw [if_pos h0]
        refine ih _ _ ⟨rfl, ?_⟩
        have hno := hpb.eq h0
        have hx : ∀ l, AG G p l → (enc l < c ↔ enc l < c + 1) := by
          intro l hl
          have : enc l ≠ c := fun e => hno ⟨l, hl, e⟩
          omega
        rw [mk_congr]
        intro i hi
        unfold mBc
        by_cases h5 : i < 5
        · rw [if_pos h5, if_pos h5]
          refine pB_i ⟨?_, ?_⟩
          · rintro ⟨l, h1, h2, h3⟩; exact ⟨l, h1, (hx l h1).mp h2, h3⟩
          · rintro ⟨l, h1, h2, h3⟩; exact ⟨l, h1, (hx l h1).mpr h2, h3⟩
        · rw [if_neg h5, if_neg h5]
          refine pB_i ⟨?_, ?_⟩
          · rintro ⟨l, h1, h2, h3⟩; exact ⟨l, h1, (hx l h1).mp h2, h3⟩
          · rintro ⟨l, h1, h2, h3⟩; exact ⟨l, h1, (hx l h1).mpr h2, h3⟩
      · rw [if_neg h0, lettersOf_e hc, bd_ok]
        obtain ⟨l, hl, el⟩ := hpb.ne h0
        have hvl := hv l hl
        have hln := lo_enc hvl
        rw [el] at hln
        have uq : ∀ l', AG G p l' → enc l' = c → l' = l := fun l' hl' e => enc_inj (hv l' hl') hvl (e.trans el.symm)
        have go : ∀ (m : Nat), m < 6 → (∀ i, i < 6 → ((if i < 5 then l[j]? = some i else l.length ≤ j) ↔ i = m)) → wp (rec (nI (mk (fun i => mBc (AG G p) j c i || decide (i = m)))) (nI (c + 1)) t) (fun r t' => t' = t ∧ r = nI (mk (mB (AG G p) j))) := by
          intro m hm hmm
          refine ih _ _ ⟨rfl, ?_⟩
          rw [mk_congr]
          intro i hi
          have h1 := hmm i hi
          unfold mBc
          by_cases h5 : i < 5
          · rw [if_pos h5] at h1
            rw [if_pos h5, if_pos h5]
            rw [Bool.eq_iff_iff, Bool.or_eq_true, pB_t, pB_t, decide_eq_true_eq]
            constructor
            · rintro (⟨l', a1, a2, a3⟩ | e)
              · exact ⟨l', a1, by omega, a3⟩
              · exact ⟨l, hl, by omega, h1.mpr e⟩
            · rintro ⟨l', a1, a2, a3⟩
              by_cases e : enc l' = c
              · right
                rw [uq l' a1 e] at a3
                exact h1.mp a3
              · exact Or.inl ⟨l', a1, by omega, a3⟩
          · rw [if_neg h5] at h1
            rw [if_neg h5, if_neg h5]
            rw [Bool.eq_iff_iff, Bool.or_eq_true, pB_t, pB_t, decide_eq_true_eq]
            constructor
            · rintro (⟨l', a1, a2, a3⟩ | e)
              · exact ⟨l', a1, by omega, a3⟩
              · exact ⟨l, hl, by omega, h1.mpr e⟩
            · rintro ⟨l', a1, a2, a3⟩
              by_cases e : enc l' = c
              · right
                rw [uq l' a1 e] at a3
                exact h1.mp a3
              · exact Or.inl ⟨l', a1, by omega, a3⟩
        simp (disch := omega) only [lt_ok]
        by_cases hjl : j < lo c
        · rw [if_pos hjl, cut_e hc (by omega), bd_ok]
          have hcl := ct_le c (j + 1)
          obtain ⟨i, hi1, hi2, hi3⟩ := enc_at hvl (show j < l.length by omega)
          have hct : ct c (j + 1) % 6 = i + 1 := by rw [← el, ct_enc hvl]; exact hi3
          simp (disch := omega) only [pk_div, nI_mulN, nI_subN]
          rw [show ct c (j + 1) - ct c (j + 1) / 6 * 6 - 1 = i by omega, mk_set _ (show i < 6 by omega)]
          refine go i (by omega) (fun i' hi' => ?_)
          by_cases h5 : i' < 5
          · rw [if_pos h5, hi1, Option.some.injEq]
            exact ⟨fun h => h.symm, fun h => h.symm⟩
          · rw [if_neg h5]
            constructor
            · intro h; omega
            · intro h; omega
        · rw [if_neg hjl, mk_32, mk_or]
          refine go 5 (by omega) (fun i' hi' => ?_)
          by_cases h5 : i' < 5
          · rw [if_pos h5, List.getElem?_eq_none (by omega)]
            constructor
            · intro h; cases h
            · intro h; omega
          · rw [if_neg h5]
            constructor
            · intro h; omega
            · intro h; omega
    · rintro rec v t ⟨rfl, rfl⟩
      simp (disch := omega) only [le_ok, if_pos]
      refine wp_some ⟨rfl, ?_⟩
      rw [mk_congr]
      intro i hi
      unfold mBc mB
      by_cases h5 : i < 5
      · rw [if_pos h5, if_pos h5]
        refine pB_i ⟨?_, ?_⟩
        · rintro ⟨l, h1, h2, h3⟩; exact ⟨l, h1, h3⟩
        · rintro ⟨l, h1, h3⟩; exact ⟨l, h1, enc_lt (hv l h1), h3⟩
      · rw [if_neg h5, if_neg h5]
        refine pB_i ⟨?_, ?_⟩
        · rintro ⟨l, h1, h2, h3⟩; exact ⟨l, h1, h3⟩
        · rintro ⟨l, h1, h3⟩; exact ⟨l, h1, enc_lt (hv l h1), h3⟩
    · rw [← mk_no, mk_congr]
      intro i hi
      unfold mBc
      by_cases h5 : i < 5
      · rw [if_pos h5]; exact (pB_f.mpr (fun ⟨l, _, h, _⟩ => absurd h (Nat.not_lt_zero _))).symm
      · rw [if_neg h5]; exact (pB_f.mpr (fun ⟨l, _, h, _⟩ => absurd h (Nat.not_lt_zero _))).symm
  obtain ⟨r, t, e, rfl, rfl⟩ := key
  exact e
theorem marksAt_a (hX : XG G s) {p j n : Nat} (hp : p < G.1) (hj : j < 3) (hn : 300 ≤ n) : fX10_marksAt n (18 + p) (nI j) s = some (nI (mk (mB (AG G p) j)), s) := marksAt_c (hX.2.2.2.2.2.2.1 p hp) hj (by omega)
theorem q_marks (hX : XG G s) (hK : GK G) (hM : MLd G s) {n : Nat} (hn : 300 ≤ n) (a b : Int32) : ∃ r, fX11_marks n a b s = some (r, s) ∧ fX12_marks n a b s = some (r, s) := by
  have w := hK.1
  have h16 := w.1.2
  unfold fX11_marks fX12_marks
  simp only [lt_def]
  rcases has_b hX w hM a with ⟨p, hp, rfl, h1, h2⟩ | ⟨h1, h2⟩
  · simp only [h1, h2, bd_ok, if_neg n1_0]
    rcases rge b 2 (by decide) with ⟨j, hj, rfl⟩ | h
    · rw [in_t hj (by decide), bd_ok, if_neg n1_0, if_neg (nlt0 (by omega)), if_pos (by rw [lt_ok (by omega) (by decide)]; omega)]
      unfold fX3_aheadOf
      simp (disch := omega) only [ra_ok, bd_ok, marksAt_a hX hp (show j < 3 by omega) hn, marksOf_m hK hM hp (show j < 3 by omega) hn]
      exact ⟨_, rfl, rfl⟩
    · rw [in_f h, bd_ok, if_pos n0_0]
      rcases rge_cases h with h3 | ⟨h3, h4⟩
      · rw [if_pos h3]; exact ⟨_, rfl, rfl⟩
      · rw [if_neg (Int32.not_lt.mpr h3), if_neg (Int32.not_lt.mpr (gt_ge (by decide) (by decide) h4 (by decide)))]; exact ⟨_, rfl, rfl⟩
  · simp only [h1, h2, bd_ok, if_pos n0_0]; exact ⟨_, rfl, rfl⟩
/-- the first word of two sets -/
def CW (G : Gr) (k p q : Nat) (r : Int32) : Prop := (r = -9 ∧ ∀ c, ¬ (cd (ctS k (AG G p)) c ∧ cd (ctS k (AG G q)) c)) ∨ ∃ c, c < 216 ∧ r = nI c ∧ (cd (ctS k (AG G p)) c ∧ cd (ctS k (AG G q)) c) ∧ ∀ d, d < c → ¬ (cd (ctS k (AG G p)) d ∧ cd (ctS k (AG G q)) d)
theorem CW.uniq {k p q : Nat} {r r' : Int32} (h : CW G k p q r) (h' : CW G k p q r') : r = r' := by
  rcases h with ⟨rfl, h1⟩ | ⟨c, hc, rfl, h1, h2⟩
  · rcases h' with ⟨rfl, h1'⟩ | ⟨c', hc', rfl, h1', h2'⟩
    · rfl
    · exact absurd h1' (h1 c')
  · rcases h' with ⟨rfl, h1'⟩ | ⟨c', hc', rfl, h1', h2'⟩
    · exact absurd h1 (h1' c)
    · rcases Nat.lt_trichotomy c c' with h3 | h3 | h3
      · exact absurd h1 (h2' c h3)
      · rw [h3]
      · exact absurd h1' (h2 c' h3)
theorem CW.none (hK : GK G) {k p q : Nat} (hk : k < 4) (hp : p < G.1) (hq : q < G.1) {r : Int32} (h : CW G k p q r) : r = -9 ↔ ¬ Mt G k p q := by
  rcases h with ⟨rfl, h1⟩ | ⟨c, hc, rfl, ⟨⟨l, h1, e1⟩, l', h2, e2⟩, h3⟩
  · refine ⟨fun _ ⟨l, h2, h3⟩ => h1 (enc l) ⟨⟨l, h2, rfl⟩, l, h3, rfl⟩, fun _ => rfl⟩
  · constructor
    · intro h; exact absurd h (neg_lt (by omega))
    · intro h
      have e := enc_inj (ctS.vs (vsA hK hp) (by omega) l h1) (ctS.vs (vsA hK hq) (by omega) l' h2) (e1.trans e2.symm)
      exact absurd ⟨l, h1, by rw [e]; exact h2⟩ h
theorem clashOf_m (hM : MLd G s) (w : WG G) {k p q n : Nat} (hk : k < 4) (hp : p < G.1) (hq : q < G.1) (hvs : ∀ z, VS (zS G z)) (hn : 300 ≤ n) : ∃ r, fX12_clashOf n (nI p) (nI q) (nI k) s = some (r, s) ∧ CW G k p q r := by
  have h16 := w.1.2
  have key : wp (fX12_clashOf n (nI p) (nI q) (nI k) s) (fun r t => t = s ∧ CW G k p q r) := by
    unfold fX12_clashOf
    simp only [lt_def]
    refine wp_for2 216 (by omega) (fun c t => t = s ∧ ∀ d, d < c → ¬ (cd (ctS k (AG G p)) d ∧ cd (ctS k (AG G q)) d)) ?_ ?_ n 0 s (by omega) ⟨rfl, fun d hd => absurd hd (Nat.not_lt_zero d)⟩ (by omega)
    · rintro rec c t hc ⟨rfl, hno⟩ ih
      obtain ⟨r1, e1, b1⟩ := has_m hM (show 12 + p < 28 by omega) hk hc
      obtain ⟨r2, e2, b2⟩ := has_m hM (show 12 + q < 28 by omega) hk hc
      rw [zS_a hp] at b1
      rw [zS_a hq] at b2
      simp (disch := omega) only [le_ok, if_neg, nI_mulN, nI_add, jn_def]
      rw [show 2592 + 216 * p = 216 * (12 + p) by omega, show 2592 + 216 * q = 216 * (12 + q) by omega, e1, bd_ok]
      have skip : ¬ (cd (ctS k (AG G p)) c ∧ cd (ctS k (AG G q)) c) → wp (rec (nI (c + 1)) t) (fun r t' => t' = t ∧ CW G k p q r) := by
        intro hc
        refine ih _ ⟨rfl, fun d hd => ?_⟩
        by_cases e : d = c
        · rw [e]; exact hc
        · exact hno d (by omega)
      by_cases h1 : r1 = 0
      · rw [if_pos h1]; exact skip (fun h => b1.eq h1 h.1)
      · rw [if_neg h1, e2, bd_ok]
        by_cases h2 : r2 = 0
        · rw [if_pos h2]; exact skip (fun h => b2.eq h2 h.2)
        · rw [if_neg h2]
          exact wp_some ⟨rfl, Or.inr ⟨c, hc, rfl, ⟨b1.ne h1, b2.ne h2⟩, hno⟩⟩
    · rintro rec t ⟨rfl, hno⟩
      simp (disch := omega) only [le_ok, if_pos]
      refine wp_some ⟨rfl, Or.inl ⟨rfl, fun c hc => hno c ?_ hc⟩⟩
      obtain ⟨l, h1, e1⟩ := hc.1
      have := hvs (12 + p)
      rw [zS_a hp] at this
      rw [← e1]
      exact enc_lt (ctS.vs this (by omega) l h1)
  obtain ⟨r, t, e, rfl, hp⟩ := key
  exact ⟨r, e, hp⟩
theorem q_clashWord (hX : XG G s) (hK : GK G) (hM : MLd G s) {n : Nat} (hn : 300 ≤ n) (a b c : Int32) : ∃ r, fX11_clashWord n a b c s = some (r, s) ∧ fX12_clashWord n a b c s = some (r, s) := by
  have w := hK.1
  have h16 := w.1.2
  rcases has_b hX w hM a with ⟨p, hp, rfl, h1, h2⟩ | ⟨h1, h2⟩
  · rcases has_b hX w hM b with ⟨q, hq, rfl, g1, g2⟩ | ⟨g1, g2⟩
    · rcases isLook_b (s := s) c with ⟨k, hk, rfl, h3, h4⟩ | ⟨h3, h4⟩
      · obtain ⟨r, e1, w1⟩ := clashOf_m hM w hk hp hq hK.vs hn
        have hpl := (pw_pos k).2
        have hP := hX.2.2.2.2.2.2.1 p hp
        have hQ := hX.2.2.2.2.2.2.1 q hq
        have c1 : wp (fX11_clashWord n (nI p) (nI q) (nI k) s) (fun r t => t = s ∧ CW G k p q r) := by
          unfold fX11_clashWord
          simp only [lt_def, h1, g1, h3, bd_ok, if_neg n1_0]
          unfold fX3_aheadOf
          simp (disch := omega) only [ra_ok, bd_ok]
          refine wp_for2 (pw k) (by omega) (fun c t => t = s ∧ ∀ d, d < c → ¬ (cd (ctS k (AG G p)) d ∧ cd (ctS k (AG G q)) d)) ?_ ?_ n 0 s (by omega) ⟨rfl, fun d hd => absurd hd (Nat.not_lt_zero d)⟩ (by omega)
          · rintro rec c t hc ⟨rfl, hno⟩ ih
            simp (disch := omega) only [ra_ok, lim_e, le_ok, if_neg, nI_add, jn_def]
            have skip : ¬ (cd (ctS k (AG G p)) c ∧ cd (ctS k (AG G q)) c) → wp (rec (nI (c + 1)) t) (fun r t' => t' = t ∧ CW G k p q r) := by
              intro hc
              refine ih _ ⟨rfl, fun d hd => ?_⟩
              by_cases e : d = c
              · rw [e]; exact hc
              · exact hno d (by omega)
            rcases isHas_c hP hk (show c < 216 by omega) (show 10 ≤ n by omega) with ⟨h5, h6⟩ | ⟨h5, d1, d2, d3⟩
            · rw [h5, bd_ok, if_pos n0_0]; exact skip (fun h => h6 h.1)
            · rw [h5, bd_ok, if_neg n1_0]
              obtain ⟨r1, e7, h7⟩ := hasc_c hP hk d1 d2 d3
              obtain ⟨r2, e8, h8⟩ := hasc_c hQ hk d1 d2 d3
              rw [e7, bd_ok]
              by_cases hr : r1 = 0
              · rw [if_pos hr]; exact skip (fun h => h7.eq hr h.1)
              · rw [if_neg hr, e8, bd_ok]
                by_cases hr2 : r2 = 0
                · rw [if_pos hr2]; exact skip (fun h => h8.eq hr2 h.2)
                · rw [if_neg hr2]
                  exact wp_some ⟨rfl, Or.inr ⟨c, by omega, rfl, ⟨h7.ne hr, h8.ne hr2⟩, hno⟩⟩
          · rintro rec t ⟨rfl, hno⟩
            simp (disch := omega) only [ra_ok, lim_e, le_ok, if_pos]
            exact wp_some ⟨rfl, Or.inl ⟨rfl, fun c hc => hno c (ctS_vw hP.1 hk hc.1).2.2 hc⟩⟩
        obtain ⟨r', t, e2, rfl, w2⟩ := c1
        refine ⟨r', e2, ?_⟩
        unfold fX12_clashWord
        simp only [h2, g2, h4, bd_ok, if_neg n1_0, e1]
        rw [w1.uniq w2]
      · unfold fX11_clashWord fX12_clashWord
        simp only [lt_def, h1, g1, h2, g2, h3, h4, bd_ok, if_neg n1_0, if_pos n0_0]
        exact ⟨_, rfl, rfl⟩
    · unfold fX11_clashWord fX12_clashWord
      simp only [lt_def, h1, g1, h2, g2, bd_ok, if_neg n1_0, if_pos n0_0]
      exact ⟨_, rfl, rfl⟩
  · unfold fX11_clashWord fX12_clashWord
    simp only [lt_def, h1, h2, bd_ok, if_pos n0_0]
    exact ⟨_, rfl, rfl⟩
theorem pairOf_m (hK : GK G) (hM : MLd G s) {x k n : Nat} (hx : x < 6) (hk : k < 4) (hn : 300 ≤ n) : ∃ r, fX12_pairOf n (nI x) (nI k) s = some (r, s) ∧ PCL G x k r := by
  have w := hK.1
  have h16 := w.1.2
  have key : wp (fX12_pairOf n (nI x) (nI k) s) (fun r t => t = s ∧ PCL G x k r) := by
    unfold fX12_pairOf
    simp only [lt_def]
    refine wp_for2 G.1 (by omega) (fun p t => t = s ∧ ∀ p' q', p' < p → prx G x p' q' → ¬ Mt G k p' q') ?_ ?_ n 0 s (by omega) ⟨rfl, fun p' q' h1 h2 => absurd h1 (Nat.not_lt_zero _)⟩ (by omega)
    · rintro rec p t hp ⟨rfl, hno⟩ ih
      simp (disch := omega) only [many_e hM.1, bd_ok, le_ok, if_neg, nI_add]
      refine wp_for2 G.1 (by omega) (fun q t' => t' = t ∧ p + 1 ≤ q ∧ ∀ q', q' < q → prx G x p q' → ¬ Mt G k p q') ?_ ?_ n (p + 1) t (by omega) ⟨rfl, Nat.le_refl _, fun q' h1 h2 => by have := h2.1; omega⟩ (by omega)
      · rintro rec2 q t' hq ⟨rfl, hpq, hno2⟩ ih2
        have l1 := (w.2.1 p hp).1
        have l2 := (w.2.1 q hq).1
        simp (disch := omega) only [many_e hM.1, bd_ok, le_ok, if_neg, nI_add, left_e hM.1 w hp, left_e hM.1 w hq, jn_def, eq_ok]
        have skip : (prx G x p q → ¬ Mt G k p q) → wp (rec2 (nI (q + 1)) t') (fun r t => t = t' ∧ PCL G x k r) := by
          intro h
          refine ih2 _ ⟨rfl, by omega, fun q' h1 h2 => ?_⟩
          by_cases e : q' = q
          · rw [e]; rw [e] at h2; exact h h2
          · exact hno2 q' (by omega) h2
        by_cases c1 : G.2.1 p = x
        · rw [if_pos c1]
          by_cases c2 : G.2.1 q = x
          · rw [if_pos c2]
            obtain ⟨r, e1, w1⟩ := clashOf_m hM w hk hp hq hK.vs hn
            have hw := w1.none hK hk hp hq
            rw [e1, bd_ok]
            by_cases hr : r = -9
            · rw [if_pos hr]; exact skip (fun _ => hw.mp hr)
            · rw [if_neg hr, nI_mulN, nI_add]
              have hmt : Mt G k p q := Classical.byContradiction (fun hc => hr (hw.mpr hc))
              refine wp_some ⟨rfl, Or.inr ⟨p, q, rfl, ⟨by omega, hq, c1, c2⟩, hmt, fun p' q' h1 h2 => ?_⟩⟩
              rcases Nat.lt_or_ge p' p with h3 | h3
              · exact absurd h2 (hno p' q' h3 h1)
              · rcases Nat.lt_or_ge p p' with h4 | h4
                · exact Or.inl h4
                · have : p' = p := by omega
                  subst this
                  right
                  refine ⟨rfl, ?_⟩
                  rcases Nat.lt_or_ge q' q with h5 | h5
                  · exact absurd h2 (hno2 q' h5 h1)
                  · exact h5
          · rw [if_neg c2]; exact skip (fun h => absurd h.2.2.2 c2)
        · rw [if_neg c1]; exact skip (fun h => absurd h.2.2.1 c1)
      · rintro rec2 t' ⟨rfl, hpq, hno2⟩
        simp (disch := omega) only [many_e hM.1, bd_ok, le_ok, if_pos, nI_add]
        refine ih _ ⟨rfl, fun p' q' h1 h2 => ?_⟩
        by_cases e : p' = p
        · subst e
          exact hno2 q' h2.2.1 h2
        · exact hno p' q' (by omega) h2
    · rintro rec t ⟨rfl, hno⟩
      simp (disch := omega) only [many_e hM.1, bd_ok, le_ok, if_pos]
      refine wp_some ⟨rfl, Or.inl ⟨rfl, fun p q h1 => ?_⟩⟩
      have := h1.1
      have := h1.2.1
      exact hno p q (by omega) h1
  obtain ⟨r, t, e, rfl, hp⟩ := key
  exact ⟨r, e, hp⟩
theorem clash_v (hX : XG G s) (hK : GK G) (hM : MLd G s) {x k n : Nat} (hx : x < 6) (hk : k < 4) (hn : 300 ≤ n) : ∃ r, fX3_firstClash n (s.2.2 0 8) (nI x) (nI k) s = some (r, s) ∧ fX12_pairOf n (nI x) (nI k) s = some (r, s) := by
  obtain ⟨r, e1, w1⟩ := firstClash_c hX.2.1 hK.1 hX.2.2.2.2.2.2.1 hx hk (show 20 ≤ n by omega)
  obtain ⟨r', e2, w2⟩ := pairOf_m hK hM hx hk hn
  exact ⟨r, e1, by rw [e2, w1.uniq w2]⟩
theorem q_clash (hX : XG G s) (hK : GK G) (hM : MLd G s) {n : Nat} (hn : 300 ≤ n) (a b : Int32) : ∃ r, fX11_clash n a b s = some (r, s) ∧ fX12_clash n a b s = some (r, s) := by
  unfold fX11_clash fX12_clash
  rcases isDef_b hX hK.1 hM (show 30 ≤ n by omega) a with ⟨x, hx, rfl, hd, h1, h2⟩ | ⟨h1, h2⟩
  · rcases isLook_b (s := s) b with ⟨k, hk, rfl, h3, h4⟩ | ⟨h3, h4⟩
    · obtain ⟨r, e1, e2⟩ := clash_v hX hK hM hx hk hn
      simp only [h1, h2, h3, h4, bd_ok, if_neg n1_0, lt_def, e1, e2]
      exact ⟨_, rfl, rfl⟩
    · simp only [h1, h2, h3, h4, bd_ok, if_neg n1_0, if_pos n0_0]; exact ⟨_, rfl, rfl⟩
  · simp only [h1, h2, bd_ok, if_pos n0_0]; exact ⟨_, rfl, rfl⟩
theorem depthOf_m (hX : XG G s) (hK : GK G) (hM : MLd G s) {x n : Nat} (hx : x < 6) (hn : 300 ≤ n) : fX12_depthOf n (nI x) s = some (s.1 19 x, s) := by
  have key : wp (fX12_depthOf n (nI x) s) (fun r t => t = s ∧ DP G x r) := by
    unfold fX12_depthOf
    simp only [lt_def]
    refine wp_for2 4 (by omega) (fun k t => t = s ∧ ∀ k', k' < k → ¬ NC G x k') ?_ ?_ n 0 s (by omega) ⟨rfl, fun k' hk' => absurd hk' (Nat.not_lt_zero k')⟩ (by omega)
    · rintro rec k t hk ⟨rfl, hno⟩ ih
      obtain ⟨r, e1, e2⟩ := pairOf_m hK hM hx hk hn
      simp (disch := omega) only [le_ok, if_neg, e1, bd_ok, nI_add]
      by_cases hr : r = -9
      · rw [if_pos hr]
        exact wp_some ⟨rfl, Or.inl ⟨k, hk, rfl, (e2.none hK.1).mp hr, hno⟩⟩
      · rw [if_neg hr]
        refine ih _ ⟨rfl, fun k' hk' => ?_⟩
        by_cases e : k' = k
        · rw [e]; exact fun hc => hr ((e2.none hK.1).mpr hc)
        · exact hno k' (by omega)
    · rintro rec t ⟨rfl, hno⟩
      simp (disch := omega) only [le_ok, if_pos]
      exact wp_some ⟨rfl, Or.inr ⟨rfl, hno⟩⟩
  obtain ⟨r, t, e, rfl, hp⟩ := key
  rw [e, hp.uniq (hX.2.2.2.2.2.2.2 x hx).1]
theorem parted_m (hK : GK G) (hM : MLd G s) {p q n : Nat} (hp : p < G.1) (hq : q < G.1) (hn : 300 ≤ n) : fX12_partedAt n (nI p) (nI q) s = some (nI (ptG G p q), s) := by
  have key : wp (fX12_partedAt n (nI p) (nI q) s) (fun r t => t = s ∧ r = nI (ptG G p q)) := by
    unfold fX12_partedAt
    simp only [lt_def]
    refine wp_for2 3 (by omega) (fun j t => t = s ∧ ∀ i, i < j → cmk (AG G p) (AG G q) i) ?_ ?_ n 0 s (by omega) ⟨rfl, fun i hi => absurd hi (Nat.not_lt_zero i)⟩ (by omega)
    · rintro rec j t hj ⟨rfl, hall⟩ ih
      simp (disch := omega) only [le_ok, if_neg, marksOf_m hK hM hp hj hn, marksOf_m hK hM hq hj hn, bd_ok, nI_add]
      by_cases h0 : (nI (mk (mB (AG G p) j)) &&& nI (mk (mB (AG G q) j))) = 0
      · rw [if_pos h0]
        refine wp_some ⟨rfl, ?_⟩
        unfold ptG
        rw [ptN_of (by omega) hall (fun _ => cmk_0.mp h0)]
      · rw [if_neg h0]
        refine ih _ ⟨rfl, fun i hi => ?_⟩
        by_cases e : i = j
        · rw [e]; exact Classical.byContradiction (fun hc => h0 (cmk_0.mpr hc))
        · exact hall i (by omega)
    · rintro rec t ⟨rfl, hall⟩
      simp (disch := omega) only [le_ok, if_pos]
      refine wp_some ⟨rfl, ?_⟩
      unfold ptG
      rw [ptN_of (by omega) hall (fun h => absurd h (Nat.lt_irrefl 3))]
  obtain ⟨r, t, e, rfl, rfl⟩ := key
  exact e
theorem approxOf_m (hX : XG G s) (hK : GK G) (hM : MLd G s) {x n : Nat} (hx : x < 6) (hn : 300 ≤ n) : fX12_approximateOf n (nI x) s = some (s.1 20 x, s) := by
  have w := hK.1
  have h16 := w.1.2
  have key : wp (fX12_approximateOf n (nI x) s) (fun r t => t = s ∧ RD G x r) := by
    unfold fX12_approximateOf
    simp only [lt_def]
    refine wp_for3 G.1 (by omega) (fun p v t => t = s ∧ ∃ m, v = nI m ∧ m ≤ 4 ∧ (∀ p' q', p' < p → prx G x p' q' → ptG G p' q' + 1 ≤ m) ∧ (m = 0 ∨ ∃ p q, prx G x p q ∧ ptG G p q + 1 = m)) ?_ ?_ n 0 _ s (by omega) ⟨rfl, 0, rfl, by omega, fun p' q' h1 h2 => absurd h1 (Nat.not_lt_zero _), Or.inl rfl⟩ (by omega)
    · rintro rec p v t hp ⟨rfl, m, rfl, hm, hall, hat⟩ ih
      simp (disch := omega) only [many_e hM.1, bd_ok, le_ok, if_neg, nI_add]
      refine wp_for3 G.1 (by omega) (fun q v t' => t' = t ∧ p + 1 ≤ q ∧ ∃ m, v = nI m ∧ m ≤ 4 ∧ (∀ p' q', p' < p ∨ (p' = p ∧ q' < q) → prx G x p' q' → ptG G p' q' + 1 ≤ m) ∧ (m = 0 ∨ ∃ p q, prx G x p q ∧ ptG G p q + 1 = m)) ?_ ?_ n (p + 1) _ t (by omega) ⟨rfl, Nat.le_refl _, m, rfl, hm, fun p' q' h1 h2 => by
          have := h2.1
          exact hall p' q' (by omega) h2, hat⟩ (by omega)
      · rintro rec2 q v t' hq ⟨rfl, hpq, m, rfl, hm, hall, hat⟩ ih2
        have l1 := (w.2.1 p hp).1
        have l2 := (w.2.1 q hq).1
        have hle : ptG G p q ≤ 3 := ptN_le (AG G p) (AG G q)
        simp (disch := omega) only [many_e hM.1, bd_ok, le_ok, if_neg, nI_add, left_e hM.1 w hp, left_e hM.1 w hq, jn_def, eq_ok, parted_m hK hM hp hq hn]
        have fin : ∀ m', (¬ prx G x p q ∧ m' = m) ∨ (prx G x p q ∧ ((m' = m ∧ ptG G p q + 1 ≤ m) ∨ (m' = ptG G p q + 1 ∧ m < m'))) → wp (rec2 (nI m') (nI (q + 1)) t') (fun r t => t = t' ∧ RD G x r) := by
          intro m' hm'
          refine ih2 _ _ ⟨rfl, by omega, m', rfl, by omega, fun p' q' h1 h2 => ?_, ?_⟩
          · by_cases e : p' = p ∧ q' = q
            · obtain ⟨rfl, rfl⟩ := e
              rcases hm' with ⟨h3, _⟩ | ⟨_, h3⟩
              · exact absurd h2 h3
              · omega
            · have := hall p' q' (by omega) h2
              omega
          · rcases hm' with ⟨_, rfl⟩ | ⟨hpr, ⟨rfl, _⟩ | ⟨e, _⟩⟩
            · exact hat
            · exact hat
            · exact Or.inr ⟨p, q, hpr, e.symm⟩
        by_cases c1 : G.2.1 p = x
        · rw [if_pos c1]
          by_cases c2 : G.2.1 q = x
          · rw [if_pos c2]
            have hpr : prx G x p q := ⟨by omega, hq, c1, c2⟩
            split
            · exact fin m (Or.inr ⟨hpr, by omega⟩)
            · exact fin _ (Or.inr ⟨hpr, by omega⟩)
          · rw [if_neg c2]; exact fin m (Or.inl ⟨fun h => c2 h.2.2.2, rfl⟩)
        · rw [if_neg c1]; exact fin m (Or.inl ⟨fun h => c1 h.2.2.1, rfl⟩)
      · rintro rec2 v t' ⟨rfl, hpq, m, rfl, hm, hall, hat⟩
        simp (disch := omega) only [many_e hM.1, bd_ok, le_ok, if_pos, nI_add]
        refine ih _ _ ⟨rfl, m, rfl, hm, fun p' q' h1 h2 => ?_, hat⟩
        have := h2.2.1
        exact hall p' q' (by omega) h2
    · rintro rec v t ⟨rfl, m, rfl, hm, hall, hat⟩
      simp (disch := omega) only [many_e hM.1, bd_ok, le_ok, if_pos]
      by_cases h3 : m ≤ 3
      · rw [if_pos h3]
        refine wp_some ⟨rfl, Or.inr ⟨m, rfl, h3, fun p q h1 => ?_, hat⟩⟩
        have := h1.1
        have := h1.2.1
        exact hall p q (by omega) h1
      · rw [if_neg h3]
        refine wp_some ⟨rfl, Or.inl ⟨rfl, ?_⟩⟩
        rcases hat with h | ⟨p, q, h1, h2⟩
        · omega
        · exact ⟨p, q, h1, by omega⟩
  obtain ⟨r, t, e, rfl, hp⟩ := key
  rw [e, hp.uniq (hX.2.2.2.2.2.2.2 x hx).2]
theorem q_depth (hX : XG G s) (hK : GK G) (hM : MLd G s) {n : Nat} (hn : 300 ≤ n) (a : Int32) : ∃ r, fX11_depth a s = some (r, s) ∧ fX12_depth n a s = some (r, s) := by
  unfold fX11_depth fX12_depth
  rcases isDef_b hX hK.1 hM (show 30 ≤ n by omega) a with ⟨x, hx, rfl, hd, h1, h2⟩ | ⟨h1, h2⟩
  · unfold fX3_depthOf
    simp (disch := omega) only [h1, h2, bd_ok, if_neg n1_0, ra_ok, depthOf_m hX hK hM hx hn]
    exact ⟨_, rfl, rfl⟩
  · simp only [h1, h2, bd_ok, if_pos n0_0]; exact ⟨_, rfl, rfl⟩
theorem q_approximate (hX : XG G s) (hK : GK G) (hM : MLd G s) {n : Nat} (hn : 300 ≤ n) (a : Int32) : ∃ r, fX11_approximate a s = some (r, s) ∧ fX12_approximate n a s = some (r, s) := by
  unfold fX11_approximate fX12_approximate
  rcases isDef_b hX hK.1 hM (show 30 ≤ n by omega) a with ⟨x, hx, rfl, hd, h1, h2⟩ | ⟨h1, h2⟩
  · unfold fX3_roughDepthOf
    simp (disch := omega) only [h1, h2, bd_ok, if_neg n1_0, ra_ok, approxOf_m hX hK hM hx hn]
    exact ⟨_, rfl, rfl⟩
  · simp only [h1, h2, bd_ok, if_pos n0_0]; exact ⟨_, rfl, rfl⟩
/-- the greatest of the values of the defined nonterminals from x on -/
def dpF (G : Gr) (f : Nat → Int32) : Nat → Nat → Int32 → Int32
  | 0, _, v => v
  | m + 1, x, v => if dfb G x = true then (if f x = -9 then -9 else dpF G f m (x + 1) (if v < f x then f x else v)) else dpF G f m (x + 1) v
theorem deepest_c (hX : XG G s) {n : Nat} (hn : 300 ≤ n) (b : Int32) : fX11_deepest n b s = some (dpF G (if b = 0 then s.1 19 else s.1 20) 6 0 (nI 0), s) := by
  have key : wp (fX11_deepest n b s) (fun r t => t = s ∧ r = dpF G (if b = 0 then s.1 19 else s.1 20) 6 0 (nI 0)) := by
    generalize hf : (if b = 0 then s.1 19 else s.1 20) = f
    unfold fX11_deepest
    simp only [lt_def]
    refine wp_for3 6 (by omega) (fun x v t => t = s ∧ dpF G f (6 - x) x v = dpF G f 6 0 (nI 0)) ?_ ?_ n 0 _ s (by omega) ⟨rfl, rfl⟩ (by omega)
    · rintro rec x v t hx ⟨rfl, hv⟩ ih
      rw [show 6 - x = (6 - (x + 1)) + 1 by omega] at hv
      simp (disch := omega) only [le_ok, if_neg, isDef_c hX hx, bd_ok, jn_def, nI_add, bI_0]
      unfold fX3_depthOf fX3_roughDepthOf
      simp (disch := omega) only [ra_ok, bd_ok]
      unfold dpF at hv
      cases hd : dfb G x with
      | false =>
        rw [hd, if_neg (by decide)] at hv
        rw [if_pos rfl]
        exact ih _ _ ⟨rfl, hv⟩
      | true =>
        rw [hd, if_pos rfl] at hv
        rw [if_neg (by decide)]
        by_cases hb : b = 0
        · rw [if_pos hb] at hf; subst hf; rw [if_pos hb]
          by_cases h9 : t.1 19 x = -9
          · rw [if_pos h9]; rw [if_pos h9] at hv; exact wp_some ⟨rfl, hv⟩
          · rw [if_neg h9]; rw [if_neg h9] at hv; exact ih _ _ ⟨rfl, hv⟩
        · rw [if_neg hb] at hf; subst hf; rw [if_neg hb]
          by_cases h9 : t.1 20 x = -9
          · rw [if_pos h9]; rw [if_pos h9] at hv; exact wp_some ⟨rfl, hv⟩
          · rw [if_neg h9]; rw [if_neg h9] at hv; exact ih _ _ ⟨rfl, hv⟩
    · rintro rec v t ⟨rfl, hv⟩
      simp (disch := omega) only [le_ok, if_pos]
      exact wp_some ⟨rfl, hv⟩
  obtain ⟨r, t, e, rfl, rfl⟩ := key
  exact e
theorem deepest_m (hX : XG G s) (hK : GK G) (hM : MLd G s) {n : Nat} (hn : 300 ≤ n) (b : Int32) : fX12_deepest n b s = some (dpF G (if b = 0 then s.1 19 else s.1 20) 6 0 (nI 0), s) := by
  have mx : ∀ u v : Int32, (if u ≤ v then v else u) = if v < u then u else v := by
    intro u v
    by_cases h : u ≤ v
    · rw [if_pos h, if_neg (Int32.not_lt.mpr h)]
    · rw [if_neg h, if_pos (Int32.not_le.mp h)]
  have key : wp (fX12_deepest n b s) (fun r t => t = s ∧ r = dpF G (if b = 0 then s.1 19 else s.1 20) 6 0 (nI 0)) := by
    generalize hf : (if b = 0 then s.1 19 else s.1 20) = f
    unfold fX12_deepest
    simp only [lt_def]
    refine wp_for3 6 (by omega) (fun x v t => t = s ∧ dpF G f (6 - x) x v = dpF G f 6 0 (nI 0)) ?_ ?_ n 0 _ s (by omega) ⟨rfl, rfl⟩ (by omega)
    · rintro rec x v t hx ⟨rfl, hv⟩ ih
      rw [show 6 - x = (6 - (x + 1)) + 1 by omega] at hv
      simp (disch := omega) only [le_ok, if_neg, isDef_m hM hK.1 hx (show 30 ≤ n by omega), bd_ok, jn_def, nI_add, bI_0, depthOf_m hX hK hM hx hn, approxOf_m hX hK hM hx hn]
      unfold dpF at hv
      cases hd : dfb G x with
      | false =>
        rw [hd, if_neg (by decide)] at hv
        rw [if_pos rfl]
        exact ih _ _ ⟨rfl, hv⟩
      | true =>
        rw [hd, if_pos rfl] at hv
        rw [if_neg (by decide)]
        by_cases hb : b = 0
        · rw [if_pos hb] at hf; subst hf; rw [if_pos hb]
          by_cases h9 : t.1 19 x = -9
          · rw [if_pos h9]; rw [if_pos h9] at hv; exact wp_some ⟨rfl, hv⟩
          · rw [if_neg h9]; rw [if_neg h9, ← mx] at hv
            by_cases hle : t.1 19 x ≤ v
            · rw [if_pos hle]; rw [if_pos hle] at hv; exact ih _ _ ⟨rfl, hv⟩
            · rw [if_neg hle]; rw [if_neg hle] at hv; exact ih _ _ ⟨rfl, hv⟩
        · rw [if_neg hb] at hf; subst hf; rw [if_neg hb]
          by_cases h9 : t.1 20 x = -9
          · rw [if_pos h9]; rw [if_pos h9] at hv; exact wp_some ⟨rfl, hv⟩
          · rw [if_neg h9]; rw [if_neg h9, ← mx] at hv
            by_cases hle : t.1 20 x ≤ v
            · rw [if_pos hle]; rw [if_pos hle] at hv; exact ih _ _ ⟨rfl, hv⟩
            · rw [if_neg hle]; rw [if_neg hle] at hv; exact ih _ _ ⟨rfl, hv⟩
    · rintro rec v t ⟨rfl, hv⟩
      simp (disch := omega) only [le_ok, if_pos]
      exact wp_some ⟨rfl, hv⟩
  obtain ⟨r, t, e, rfl, rfl⟩ := key
  exact e
theorem q_deepest (hX : XG G s) (hK : GK G) (hM : MLd G s) {n : Nat} (hn : 300 ≤ n) (b : Int32) : ∃ r, fX11_deepest n b s = some (r, s) ∧ fX12_deepest n b s = some (r, s) := ⟨_, deepest_c hX hn b, deepest_m hX hK hM hn b⟩
end
