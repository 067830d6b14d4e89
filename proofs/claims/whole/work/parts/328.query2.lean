/-! ===== BOTH: first, follow, ahead, words, word, marks ===== -/
theorem PB.uniq {v v' : Int32} {P : Prop} (h : PB v P) (h' : PB v' P) : v = v' := by
  rcases h with ⟨a, b⟩ | ⟨a, b⟩ <;> rcases h' with ⟨c, d⟩ | ⟨c, d⟩
  · rw [a, c]
  · exact absurd b d
  · exact absurd d b
  · rw [a, c]
theorem sub0 {a b : Int32} : a - b = 0 ↔ a = b := by rw [Int32.sub_eq_iff_eq_add, Int32.zero_add]
theorem PB.rz {v : Int32} {P : Prop} (h : PB v P) (s : PH) : rz v s = some (v, s) := by
  rcases h with ⟨rfl, _⟩ | ⟨rfl, _⟩
  · exact rz1 s
  · exact rz0 s
section
variable {G : Gr} {s : PH}
theorem has_m (hM : MLd G s) {z k c : Nat} (hz : z < 28) (hk : k < 4) (hc : c < 216) : ∃ r, fX12_has (nI (216 * z)) (nI k) (nI c) s = some (r, s) ∧ PB r (cd (ctS k (zS G z)) c) := by
  have hp : PB (s.1 164 (6048 * k + 216 * z + c)) (cd (ctS k (zS G z)) c) := (hM.2.2.2.2.2.2.2.2.2.2 k z hk hz).pb hc
  refine ⟨s.1 164 (6048 * k + 216 * z + c), ?_, hp⟩
  unfold fX12_has
  simp (disch := omega) only [nI_mulN, nI_add, ra_ok]
  exact hp.rz s
theorem GK.vs (hK : GK G) (z : Nat) : VS (zS G z) := by
  unfold zS
  split
  · exact hK.2.1.1 _
  · split
    · exact hK.2.2.1 _
    · split
      · exact JL.vs (sqL.vs hK.1 hK.2.1.1 L1.vs ‹_› (a := 0) _ (by omega)) (hK.2.2.1 _)
      · exact fun _ h => h.elim
theorem zS_f {x : Nat} (h : x < 6) : zS G x = FG G x := by unfold zS; rw [if_pos h]
theorem zS_o {x : Nat} (h : x < 6) : zS G (6 + x) = OG G x := by
  unfold zS
  rw [if_neg (by omega), if_pos (by omega), show 6 + x - 6 = x by omega]
theorem zS_a {p : Nat} (h : p < G.1) : zS G (12 + p) = AG G p := by
  unfold zS
  rw [if_neg (by omega), if_neg (by omega), show 12 + p - 12 = p by omega, if_pos h]
theorem vsA (hK : GK G) {p : Nat} (hp : p < G.1) : VS (AG G p) := by rw [← zS_a hp]; exact hK.vs _
theorem has_2 (hM : MLd G s) {W : WLs} {i z k : Nat} {l : List Nat} (hW : WSt W i s) (hz : z < 28) (e : zS G z = W) (hl : VL l) (hk : k < 4) (hlk : l.length ≤ k) : ∃ r, fX10_has i (nI (enc l)) (nI k) s = some (r, s) ∧ fX12_has (nI (216 * z)) (nI k) (nI (enc l)) s = some (r, s) := by
  obtain ⟨r, h1, h2⟩ := has_c hW hl hk hlk
  obtain ⟨r', h3, h4⟩ := has_m hM hz hk (enc_lt hl)
  rw [e] at h4
  have h5 := h4.of (cd_l (ctS.vs hW.1 (by omega)) hl)
  refine ⟨r, h1, ?_⟩
  rw [h3, h5.uniq h2]
theorem notLook {n : Nat} (c b : Int32) (h : fX11_isLookahead b s = some (nI 0, s)) : fX11_isWord n c b s = some (nI 0, s) := by
  unfold fX11_isWord
  rw [h, bd_ok, if_pos n0_0]
theorem q_first (hX : XG G s) (hK : GK G) (hM : MLd G s) {n : Nat} (hn : 300 ≤ n) (a b c : Int32) : ∃ r, fX11_first n a b c s = some (r, s) ∧ fX12_first n a b c s = some (r, s) := by
  have w := hK.1
  unfold fX11_first fX12_first
  rcases isDef_b hX w hM (show 30 ≤ n by omega) a with ⟨x, hx, rfl, hd, h1, h2⟩ | ⟨h1, h2⟩
  · simp only [h1, h2, bd_ok, if_neg n1_0]
    rcases isLook_b (s := s) b with ⟨k, hk, rfl, h3, h4⟩ | ⟨h3, h4⟩
    · simp only [h4, bd_ok, if_neg n1_0]
      rcases isWord_b (s := s) hk hn c with ⟨l, hl, hlk, rfl, h5, h6⟩ | ⟨h5, h6⟩
      · simp only [h5, h6, bd_ok, if_neg n1_0, nI_mulN]
        unfold fX3_firstOf
        simp (disch := omega) only [ra_ok, bd_ok]
        obtain ⟨r, h7, h8⟩ := has_2 hM (hX.2.2.2.2.1 x hx) (show x < 28 by omega) (zS_f hx) hl hk hlk
        rw [h7, h8, bd_ok, ite_some]
        exact ⟨_, rfl, rfl⟩
      · simp only [h5, h6, bd_ok, if_pos n0_0]; exact ⟨_, rfl, rfl⟩
    · simp only [h4, notLook c b h3, bd_ok, if_pos n0_0]; exact ⟨_, rfl, rfl⟩
  · simp only [h1, h2, bd_ok, if_pos n0_0]; exact ⟨_, rfl, rfl⟩
theorem q_follow (hX : XG G s) (hK : GK G) (hM : MLd G s) {n : Nat} (hn : 300 ≤ n) (a b c : Int32) : ∃ r, fX11_follow n a b c s = some (r, s) ∧ fX12_follow n a b c s = some (r, s) := by
  have w := hK.1
  unfold fX11_follow fX12_follow
  rcases isDef_b hX w hM (show 30 ≤ n by omega) a with ⟨x, hx, rfl, hd, h1, h2⟩ | ⟨h1, h2⟩
  · simp only [h1, h2, bd_ok, if_neg n1_0]
    rcases isLook_b (s := s) b with ⟨k, hk, rfl, h3, h4⟩ | ⟨h3, h4⟩
    · simp only [h4, bd_ok, if_neg n1_0]
      rcases isWord_b (s := s) hk hn c with ⟨l, hl, hlk, rfl, h5, h6⟩ | ⟨h5, h6⟩
      · simp only [h5, h6, bd_ok, if_neg n1_0, nI_mulN, nI_add]
        unfold fX3_followOf
        simp (disch := omega) only [ra_ok, bd_ok]
        rw [show 1296 + 216 * x = 216 * (6 + x) by omega]
        obtain ⟨r, h7, h8⟩ := has_2 hM (hX.2.2.2.2.2.1 x hx) (show 6 + x < 28 by omega) (zS_o hx) hl hk hlk
        rw [h7, h8, bd_ok, ite_some]
        exact ⟨_, rfl, rfl⟩
      · simp only [h5, h6, bd_ok, if_pos n0_0]; exact ⟨_, rfl, rfl⟩
    · simp only [h4, notLook c b h3, bd_ok, if_pos n0_0]; exact ⟨_, rfl, rfl⟩
  · simp only [h1, h2, bd_ok, if_pos n0_0]; exact ⟨_, rfl, rfl⟩
theorem q_ahead (hX : XG G s) (hK : GK G) (hM : MLd G s) {n : Nat} (hn : 300 ≤ n) (a b c : Int32) : ∃ r, fX11_ahead n a b c s = some (r, s) ∧ fX12_ahead n a b c s = some (r, s) := by
  have w := hK.1
  have h16 := w.1.2
  unfold fX11_ahead fX12_ahead
  simp only [lt_def]
  rcases has_b hX w hM a with ⟨p, hp, rfl, h1, h2⟩ | ⟨h1, h2⟩
  · simp only [h1, h2, bd_ok, if_neg n1_0]
    rcases isLook_b (s := s) b with ⟨k, hk, rfl, h3, h4⟩ | ⟨h3, h4⟩
    · simp only [h4, bd_ok, if_neg n1_0]
      rcases isWord_b (s := s) hk hn c with ⟨l, hl, hlk, rfl, h5, h6⟩ | ⟨h5, h6⟩
      · simp only [h5, h6, bd_ok, if_neg n1_0, nI_mulN, nI_add]
        unfold fX3_aheadOf
        simp (disch := omega) only [ra_ok, bd_ok]
        rw [show 2592 + 216 * p = 216 * (12 + p) by omega]
        obtain ⟨r, h7, h8⟩ := has_2 hM (hX.2.2.2.2.2.2.1 p hp) (show 12 + p < 28 by omega) (zS_a hp) hl hk hlk
        rw [h7, h8, bd_ok, ite_some]
        exact ⟨_, rfl, rfl⟩
      · simp only [h5, h6, bd_ok, if_pos n0_0]; exact ⟨_, rfl, rfl⟩
    · simp only [h4, notLook c b h3, bd_ok, if_pos n0_0]; exact ⟨_, rfl, rfl⟩
  · simp only [h1, h2, bd_ok, if_pos n0_0]; exact ⟨_, rfl, rfl⟩
theorem count_m (hM : MLd G s) {z k n : Nat} (hz : z < 28) (hk : k < 4) (hn : 300 ≤ n) : fX12_count n (nI (216 * z)) (nI k) s = some (nI (cn (cB (ctS k (zS G z))) 216), s) := by
  have key : wp (fX12_count n (nI (216 * z)) (nI k) s) (fun r t => t = s ∧ r = nI (cn (cB (ctS k (zS G z))) 216)) := by
    unfold fX12_count
    simp only [lt_def]
    refine wp_for3 216 (by omega) (fun j v t => t = s ∧ v = nI (cn (cB (ctS k (zS G z))) j)) ?_ ?_ n 0 _ s (by omega) ⟨rfl, rfl⟩ (by omega)
    · rintro rec j v t hj ⟨rfl, rfl⟩ ih
      obtain ⟨r, h1, h2⟩ := has_m hM hz hk hj
      have e : cn (cB (ctS k (zS G z))) (j + 1) = cn (cB (ctS k (zS G z))) j + if cB (ctS k (zS G z)) j = true then 1 else 0 := rfl
      simp (disch := omega) only [le_ok, if_neg, h1, bd_ok, jn_def, nI_add]
      by_cases h0 : r = 0
      · rw [if_pos h0]
        refine ih _ _ ⟨rfl, ?_⟩
        rw [e, if_neg (fun h => h2.eq h0 (cB_t.mp h))]
      · rw [if_neg h0]
        refine ih _ _ ⟨rfl, ?_⟩
        rw [e, if_pos (cB_t.mpr (h2.ne h0))]
    · rintro rec v t ⟨rfl, rfl⟩
      simp (disch := omega) only [le_ok, if_pos]
      exact wp_some ⟨rfl, rfl⟩
  obtain ⟨r, t, e, rfl, rfl⟩ := key
  exact e
theorem words_c (hX : XG G s) {k n : Nat} (hk : k < 4) (hn : 300 ≤ n) : (∀ x, x < 6 → fX10_size n (6 + x) (nI k) s = some (nI (cn (cB (ctS k (zS G x))) 216), s)) ∧ (∀ x, x < 6 → fX10_size n (12 + x) (nI k) s = some (nI (cn (cB (ctS k (zS G (6 + x)))) 216), s)) ∧ ∀ p, p < G.1 → fX10_size n (18 + p) (nI k) s = some (nI (cn (cB (ctS k (zS G (12 + p)))) 216), s) := by
  refine ⟨fun x hx => ?_, fun x hx => ?_, fun p hp => ?_⟩
  · rw [zS_f hx]; exact size_c (hX.2.2.2.2.1 x hx) hk (by omega)
  · rw [zS_o hx]; exact size_c (hX.2.2.2.2.2.1 x hx) hk (by omega)
  · rw [zS_a hp]; exact size_c (hX.2.2.2.2.2.2.1 p hp) hk (by omega)
theorem q_words (hX : XG G s) (hK : GK G) (hM : MLd G s) {n : Nat} (hn : 300 ≤ n) (a b c : Int32) : ∃ r, fX11_words n a b c s = some (r, s) ∧ fX12_words n a b c s = some (r, s) := by
  have w := hK.1
  have h16 := w.1.2
  unfold fX11_words fX12_words
  rcases rge a 2 (by decide) with ⟨v, hv, rfl⟩ | h
  · rw [in_t hv (by decide), bd_ok, if_neg n1_0, if_neg (nlt0 (by omega)), if_neg (by rw [lt_ok (by decide) (by omega)]; omega)]
    rcases isLook_b (s := s) c with ⟨k, hk, rfl, h3, h4⟩ | ⟨h3, h4⟩
    · simp only [h3, h4, bd_ok, if_neg n1_0, jn_def, lt_def]
      obtain ⟨z1, z2, z3⟩ := words_c hX hk hn
      have k3 : v = 0 ∨ v = 1 ∨ v = 2 := by omega
      rcases k3 with rfl | rfl | rfl
      · rw [if_neg (show ¬ nI 0 = nI 2 by decide +kernel), if_neg (show ¬ nI 0 = nI 2 by decide +kernel)]
        rcases isDef_b hX w hM (show 30 ≤ n by omega) b with ⟨x, hx, rfl, hd, h1, h2⟩ | ⟨h1, h2⟩
        · simp only [h1, h2, bd_ok, if_neg n1_0, if_pos n0_0, nI_mulN]
          unfold fX3_firstOf
          simp (disch := omega) only [ra_ok, bd_ok, z1 x hx, count_m hM (show x < 28 by omega) hk hn]
          exact ⟨_, rfl, rfl⟩
        · simp only [h1, h2, bd_ok, if_pos n0_0]; exact ⟨_, rfl, rfl⟩
      · rw [if_neg (show ¬ nI 1 = nI 2 by decide +kernel), if_neg (show ¬ nI 1 = nI 2 by decide +kernel)]
        rcases isDef_b hX w hM (show 30 ≤ n by omega) b with ⟨x, hx, rfl, hd, h1, h2⟩ | ⟨h1, h2⟩
        · simp only [h1, h2, bd_ok, if_neg n1_0, nI_mulN, nI_add, if_true]
          unfold fX3_followOf
          rw [show 1296 + 216 * x = 216 * (6 + x) by omega]
          simp (disch := omega) only [ra_ok, bd_ok, z2 x hx, count_m hM (show 6 + x < 28 by omega) hk hn]
          exact ⟨_, rfl, rfl⟩
        · simp only [h1, h2, bd_ok, if_pos n0_0]; exact ⟨_, rfl, rfl⟩
      · rw [if_pos (show nI 2 = nI 2 from rfl), if_pos (show nI 2 = nI 2 from rfl)]
        rcases has_b hX w hM b with ⟨p, hp, rfl, h1, h2⟩ | ⟨h1, h2⟩
        · simp only [h1, h2, bd_ok, if_neg n1_0, if_neg (show ¬ nI 2 = 0 by decide +kernel), if_neg (show ¬ nI 2 = nI 1 by decide +kernel), nI_mulN, nI_add]
          unfold fX3_aheadOf
          rw [show 2592 + 216 * p = 216 * (12 + p) by omega]
          simp (disch := omega) only [ra_ok, bd_ok, z3 p hp, count_m hM (show 12 + p < 28 by omega) hk hn]
          exact ⟨_, rfl, rfl⟩
        · simp only [h1, h2, bd_ok, if_pos n0_0]; exact ⟨_, rfl, rfl⟩
    · simp only [h3, h4, bd_ok, if_pos n0_0]; exact ⟨_, rfl, rfl⟩
  · rw [in_f h, bd_ok, if_pos n0_0]
    rcases rge_cases h with h3 | ⟨h3, h4⟩
    · rw [if_pos h3]; exact ⟨_, rfl, rfl⟩
    · rw [if_neg (Int32.not_lt.mpr h3), if_pos h4]; exact ⟨_, rfl, rfl⟩
/-- word i of a set -/
def WI (W : WLs) (i r : Int32) : Prop := (∃ c, c < 216 ∧ r = nI c ∧ cd W c ∧ i = nI (cn (cB W) c)) ∨ (r = -9 ∧ ∀ c, c < 216 → cd W c → i ≠ nI (cn (cB W) c))
theorem cn_step {W : WLs} {c d : Nat} (h : cd W c) (hcd : c < d) : cn (cB W) c + 1 ≤ cn (cB W) d := by
  have e : cn (cB W) (c + 1) = cn (cB W) c + if cB W c = true then 1 else 0 := rfl
  rw [if_pos (cB_t.mpr h)] at e
  have h2 := cn_split (cB W) (c + 1) (d - (c + 1))
  rw [show c + 1 + (d - (c + 1)) = d by omega] at h2
  omega
theorem WI.uniq {W : WLs} {i r r' : Int32} (h : WI W i r) (h' : WI W i r') : r = r' := by
  rcases h with ⟨c, hc, rfl, h1, h2⟩ | ⟨rfl, h1⟩
  · rcases h' with ⟨c', hc', rfl, h1', h2'⟩ | ⟨rfl, h1'⟩
    · rw [h2] at h2'
      have l1 := cn_n (cB W) c
      have l2 := cn_n (cB W) c'
      rw [eq_ok (by omega) (by omega)] at h2'
      rcases Nat.lt_trichotomy c c' with h3 | h3 | h3
      · have := cn_step h1 h3; omega
      · rw [h3]
      · have := cn_step h1' h3; omega
    · exact absurd h2 (h1' c hc h1)
  · rcases h' with ⟨c', hc', rfl, h1', h2'⟩ | ⟨rfl, h1'⟩
    · exact absurd h2' (h1 c' hc' h1')
    · rfl
theorem ctS_vw {W : WLs} (hW : VS W) {k c : Nat} (hk : k < 4) (h : cd (ctS k W) c) : vw c = true ∧ lo c ≤ k ∧ c < pw k := by
  obtain ⟨l, ⟨a, ha, rfl⟩, rfl⟩ := h
  have hv : VL (a.take k) := VL.take k (hW a ha).2 (by omega)
  have hl : (a.take k).length ≤ k := List.length_take_le k a
  have h3 : lo (enc (a.take k)) ≤ k := by rw [lo_enc hv]; exact hl
  exact ⟨vw_enc hv, h3, (lo_pw (enc_lt hv) hk).mp h3⟩
theorem vwb {c k : Nat} (h : (vw c && decide (lo c ≤ k)) = true) : vw c = true ∧ lo c ≤ k := by
  rw [Bool.and_eq_true, decide_eq_true_eq] at h
  exact h
/-- one word of the class's loop: whether the number c is in a set -/
theorem isHas_c {W : WLs} {i : Nat} (hW : WSt W i s) {k c n : Nat} (hk : k < 4) (hc : c < 216) (hn : 10 ≤ n) : (fX11_isWord n (nI c) (nI k) s = some (nI 0, s) ∧ ¬ cd (ctS k W) c) ∨ (fX11_isWord n (nI c) (nI k) s = some (nI 1, s) ∧ VL (dec c) ∧ enc (dec c) = c ∧ (dec c).length ≤ k) := by
  have h := isWord_c (s := s) hc hk hn
  cases hb : (vw c && decide (lo c ≤ k)) with
  | false =>
    rw [hb] at h
    left
    refine ⟨h, fun hcd => ?_⟩
    obtain ⟨h1, h2, _⟩ := ctS_vw hW.1 hk hcd
    rw [h1, decide_eq_true h2] at hb
    cases hb
  | true =>
    rw [hb] at h
    right
    obtain ⟨h1, h2⟩ := vwb hb
    obtain ⟨d1, d2, d3⟩ := dec_ok hc h1
    exact ⟨h, d1, d2, by omega⟩
theorem hasc_c {W : WLs} {i : Nat} (hW : WSt W i s) {k c : Nat} (hk : k < 4) (h1 : VL (dec c)) (h2 : enc (dec c) = c) (h3 : (dec c).length ≤ k) : ∃ r, fX10_has i (nI c) (nI k) s = some (r, s) ∧ PB r (cd (ctS k W) c) := by
  obtain ⟨r, e, hp⟩ := has_c hW h1 hk h3
  rw [h2] at e
  refine ⟨r, e, hp.of ?_⟩
  have := cd_l (ctS.vs hW.1 (show k ≤ 3 by omega)) h1
  rw [h2] at this
  exact this.symm
theorem q_word (hX : XG G s) (hK : GK G) (hM : MLd G s) {n : Nat} (hn : 300 ≤ n) (a b c : Int32) : ∃ r, fX11_word n a b c s = some (r, s) ∧ fX12_word n a b c s = some (r, s) := by
  have w := hK.1
  have h16 := w.1.2
  rcases has_b hX w hM a with ⟨p, hp, rfl, h1, h2⟩ | ⟨h1, h2⟩
  · rcases isLook_b (s := s) b with ⟨k, hk, rfl, h3, h4⟩ | ⟨h3, h4⟩
    · have hpl := (pw_pos k).2
      by_cases h0 : 0 ≤ c
      · have hW := hX.2.2.2.2.2.2.1 p hp
        have c1 : wp (fX11_word n (nI p) (nI k) c s) (fun r t => t = s ∧ WI (ctS k (AG G p)) c r) := by
          unfold fX11_word
          simp only [lt_def, h1, h3, bd_ok, if_neg n1_0, if_pos h0]
          unfold fX3_aheadOf
          simp (disch := omega) only [ra_ok, bd_ok]
          refine wp_for3 (pw k) (by omega) (fun j v t => t = s ∧ v = nI (cn (cB (ctS k (AG G p))) j) ∧ ∀ d, d < j → cd (ctS k (AG G p)) d → c ≠ nI (cn (cB (ctS k (AG G p))) d)) ?_ ?_ n 0 _ s (by omega) ⟨rfl, rfl, fun d hd => absurd hd (Nat.not_lt_zero d)⟩ (by omega)
          · rintro rec j v t hj ⟨rfl, rfl, hno⟩ ih
            have e : cn (cB (ctS k (AG G p))) (j + 1) = cn (cB (ctS k (AG G p))) j + if cB (ctS k (AG G p)) j = true then 1 else 0 := rfl
            have ln := cn_n (cB (ctS k (AG G p))) j
            simp (disch := omega) only [ra_ok, lim_e, le_ok, if_neg, nI_add, jn_def]
            have skip : ¬ cd (ctS k (AG G p)) j → wp (rec (nI (cn (cB (ctS k (AG G p))) j)) (nI (j + 1)) t) (fun r t' => t' = t ∧ WI (ctS k (AG G p)) c r) := by
              intro hnc
              refine ih _ _ ⟨rfl, ?_, fun d hd hcd => ?_⟩
              · rw [e, if_neg (fun h => hnc (cB_t.mp h))]; rfl
              · by_cases ed : d = j
                · rw [ed] at hcd; exact absurd hcd hnc
                · exact hno d (by omega) hcd
            rcases isHas_c hW hk (show j < 216 by omega) (show 10 ≤ n by omega) with ⟨h5, h6⟩ | ⟨h5, d1, d2, d3⟩
            · rw [h5, bd_ok, if_pos n0_0]; exact skip h6
            · rw [h5, bd_ok, if_neg n1_0]
              obtain ⟨r, e7, h7⟩ := hasc_c hW hk d1 d2 d3
              rw [e7, bd_ok]
              by_cases hr : r = 0
              · rw [if_pos hr]; exact skip (h7.eq hr)
              · rw [if_neg hr]
                by_cases hi : nI (cn (cB (ctS k (AG G p))) j) = c
                · rw [if_pos hi]
                  exact wp_some ⟨rfl, Or.inl ⟨j, by omega, rfl, h7.ne hr, hi.symm⟩⟩
                · rw [if_neg hi]
                  refine ih _ _ ⟨rfl, ?_, fun d hd hcd => ?_⟩
                  · rw [e, if_pos (cB_t.mpr (h7.ne hr))]
                  · by_cases ed : d = j
                    · rw [ed]; exact fun h => hi h.symm
                    · exact hno d (by omega) hcd
          · rintro rec v t ⟨rfl, rfl, hno⟩
            simp (disch := omega) only [ra_ok, lim_e, le_ok, if_pos]
            exact wp_some ⟨rfl, Or.inr ⟨rfl, fun d hd hcd => hno d (ctS_vw hW.1 hk hcd).2.2 hcd⟩⟩
        have c2 : wp (fX12_word n (nI p) (nI k) c s) (fun r t => t = s ∧ WI (ctS k (AG G p)) c r) := by
          unfold fX12_word
          simp only [lt_def, h2, h4, bd_ok, if_neg n1_0, if_pos h0]
          refine wp_for3 216 (by omega) (fun j v t => t = s ∧ v = c - nI (cn (cB (ctS k (AG G p))) j) ∧ ∀ d, d < j → cd (ctS k (AG G p)) d → c ≠ nI (cn (cB (ctS k (AG G p))) d)) ?_ ?_ n 0 _ s (by omega) ⟨rfl, ?_, fun d hd => absurd hd (Nat.not_lt_zero d)⟩ (by omega)
          · rintro rec j v t hj ⟨rfl, rfl, hno⟩ ih
            have e : cn (cB (ctS k (AG G p))) (j + 1) = cn (cB (ctS k (AG G p))) j + if cB (ctS k (AG G p)) j = true then 1 else 0 := rfl
            obtain ⟨r, e7, h7⟩ := has_m hM (show 12 + p < 28 by omega) hk hj
            rw [zS_a hp] at h7
            simp (disch := omega) only [le_ok, if_neg, nI_add, jn_def, nI_mulN]
            rw [show 2592 + 216 * p = 216 * (12 + p) by omega, e7, bd_ok]
            by_cases hr : r = 0
            · rw [if_pos hr]
              refine ih _ _ ⟨rfl, ?_, fun d hd hcd => ?_⟩
              · rw [e, if_neg (fun h => h7.eq hr (cB_t.mp h))]; rfl
              · by_cases ed : d = j
                · rw [ed] at hcd; exact absurd hcd (h7.eq hr)
                · exact hno d (by omega) hcd
            · rw [if_neg hr]
              by_cases hi : c - nI (cn (cB (ctS k (AG G p))) j) = 0
              · rw [if_pos hi]
                exact wp_some ⟨rfl, Or.inl ⟨j, hj, rfl, h7.ne hr, sub0.mp hi⟩⟩
              · rw [if_neg hi]
                refine ih _ _ ⟨rfl, ?_, fun d hd hcd => ?_⟩
                · rw [e, if_pos (cB_t.mpr (h7.ne hr)), ← nI_add, show (-1 : Int32) = - nI 1 by decide +kernel]
                  simp only [Int32.sub_eq_add_neg, Int32.neg_add, Int32.add_assoc]
                · by_cases ed : d = j
                  · rw [ed]; exact fun h => hi (sub0.mpr h)
                  · exact hno d (by omega) hcd
          · rintro rec v t ⟨rfl, rfl, hno⟩
            simp (disch := omega) only [le_ok, if_pos]
            exact wp_some ⟨rfl, Or.inr ⟨rfl, hno⟩⟩
          · show c = c - nI 0
            rw [n0_0, Int32.sub_zero]
        obtain ⟨r, t, e1, rfl, w1⟩ := c1
        obtain ⟨r', t', e2, rfl, w2⟩ := c2
        refine ⟨r, e1, ?_⟩
        rw [e2, w1.uniq w2]
      · unfold fX11_word fX12_word
        simp only [lt_def, h1, h2, h3, h4, bd_ok, if_neg n1_0, if_neg h0]
        exact ⟨_, rfl, rfl⟩
    · unfold fX11_word fX12_word
      simp only [lt_def, h1, h2, h3, h4, bd_ok, if_neg n1_0, if_pos n0_0]
      exact ⟨_, rfl, rfl⟩
  · unfold fX11_word fX12_word
    simp only [lt_def, h1, h2, bd_ok, if_pos n0_0]
    exact ⟨_, rfl, rfl⟩
end
