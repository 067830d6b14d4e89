/-! ===== the class: the counts of a part, of a word ===== -/
theorem pS_lo {G : Gr} {f : Nat → Nat} {x : Nat} : ∀ n, (∀ p, p < n → G.2.1 p ≠ x) → pS G f x n = 0
  | 0, _ => rfl
  | n + 1, h => by
    show pS G f x n + _ = 0
    rw [pS_lo n (fun p hp => h p (by omega)), if_neg (h n (by omega))]
theorem pS_hi {G : Gr} {f : Nat → Nat} {x m : Nat} : ∀ k, (∀ p, m ≤ p → p < m + k → G.2.1 p ≠ x) → pS G f x (m + k) = pS G f x m
  | 0, _ => rfl
  | k + 1, h => by
    show pS G f x (m + k) + (if G.2.1 (m + k) = x then f (m + k) else 0) = _
    rw [pS_hi k (fun p h1 h2 => h p h1 (by omega)), if_neg (h (m + k) (by omega) (by omega)), Nat.add_zero]
def isCf (t q : Nat) : Prop := q = cId t 3 ∨ q = cId t 4
theorem fill_c2 {G : Gr} {g t : Nat} {e : Nat → Nat → Nat} {a b : Nat} {u : Nat → Nat} {s : PH} (hG : CG G g s) (hg : g < 6) (w : WG G) (hT : CTr G s) (hA : ACY G) (h2 : CTB t e a b s) (hne : ∀ c d, a ≤ c → c ≤ d → d ≤ b → (a < c ∨ d < b) → e c d ≠ e a b) (hs : ∀ y c d, y < 6 → a ≤ c → c ≤ d → d ≤ b → (a < c ∨ d < b) → s.1 (cId t 3) (6 * e c d + y) = nI (NT G u y c d)) (hu : ∀ m, a ≤ m → m < b → s.1 (cId t 1) m = nI (u m) ∧ u m < 5) (hab : a ≤ b) (hb : b ≤ 8) {n : Nat} (hn : 30 ≤ n) : wp (fX1_fill n t g (nI a) (nI b) s) (fun _ t' => Fr (isCf t) s t' ∧ (∀ x, x < 6 → t'.1 (cId t 3) (6 * e a b + x) = nI (NT G u x a b)) ∧ ∀ k, (k < 6 * e a b ∨ 6 * e a b + 6 ≤ k) → t'.1 (cId t 3) k = s.1 (cId t 3) k) := by
  have h16 := w.1.2
  obtain ⟨h8, h9, h77, _, _, _, M, o, hM, h75, h12, hO, hall⟩ := hT
  obtain ⟨eab1, eab2⟩ := h2 a b (Nat.le_refl _) hab (Nat.le_refl _)
  have htl := tLen_le t
  obtain ⟨E0, hE0⟩ : ∃ E0, E0 = e a b := ⟨_, rfl⟩
  rw [← hE0] at eab1 eab2
  unfold fX1_fill
  simp (disch := omega) only [lt_def, nI_mulN, nI_add, Nat.mul_comm a 9, ra_ok, eab1]
  rw [← hE0]
  refine wp_for2 6 (by omega) (fun j t' => Fr (isCf t) s t' ∧ (∀ x, x < j → t'.1 (cId t 3) (6 * E0 + x) = nI 0) ∧ ∀ k, (k < 6 * E0 ∨ 6 * E0 + 6 ≤ k) → t'.1 (cId t 3) k = s.1 (cId t 3) k) ?_ ?_ n 0 s (by omega) ⟨Fr.rf, fun x hx => absurd hx (Nat.not_lt_zero x), fun _ _ => rfl⟩ (by omega)
  · rintro rec j t' hj ⟨hf, hz, ho⟩ ih
    simp (disch := omega) only [le_ok, if_neg, nI_add, wa_ok, cl_ok]
    refine ih _ ⟨hf.tr (Fr.si (Or.inl rfl)), fun x hx => ?_, fun k hk => ?_⟩
    · rw [si_q]
      dsimp only
      by_cases ex : x = j
      · rw [if_pos (by omega)]
      · rw [if_neg (by omega)]; exact hz x (by omega)
    · rw [si_q]
      dsimp only
      rw [if_neg (by omega)]
      exact ho k hk
  · rintro rec t0 ⟨hf0, hz0, ho0⟩
    simp (disch := omega) only [le_ok, if_pos]
    refine wp_for2 M (by omega) (fun i t' => Fr (isCf t) s t' ∧ (∃ f : Nat → Nat, (∀ x, x < 6 → t'.1 (cId t 3) (6 * E0 + x) = nI (f x)) ∧ (∀ x, f x = 0 ∨ f x = NT G u x a b) ∧ ∀ j, j < i → f (o j) = NT G u (o j) a b) ∧ ∀ k, (k < 6 * E0 ∨ 6 * E0 + 6 ≤ k) → t'.1 (cId t 3) k = s.1 (cId t 3) k) ?_ ?_ n 0 t0 (by omega) ⟨hf0, ⟨fun _ => 0, hz0, fun _ => Or.inl rfl, fun j hj => absurd hj (Nat.not_lt_zero j)⟩, ho0⟩ (by omega)
    · rintro rec2 i t' hi ⟨hf, ⟨f, hc, hfx, hfo⟩, ho⟩ ih2
      have hG' := hG.fr hf (fun k hk => by unfold isCf gId cId; omega)
      obtain ⟨hx6, hxr⟩ := hO.1 i hi
      have r75 : t'.1 7 5 = nI M := by rw [(hf 7 (by unfold isCf cId; omega)).1]; exact h75
      have r12 : t'.1 12 i = nI (o i) := by rw [(hf 12 (by unfold isCf cId; omega)).1]; exact h12 i hi
      obtain ⟨B, E, eB, eE, hBE, hE1, hrng⟩ := hG.2.2 (o i) hx6
      have begE : ∀ t2, Fr (isCf t) s t2 → fX4_begin g (nI (o i)) t2 = some (nI B, t2) ∧ fX4_end g (nI (o i)) t2 = some (nI E, t2) := by
        intro t2 hf2
        constructor
        · unfold fX4_begin
          simp (disch := omega) only [ra_ok]
          rw [(hf2 (gId g 4) (by unfold isCf gId cId; omega)).1, eB]
        · unfold fX4_end
          simp (disch := omega) only [ra_ok]
          rw [(hf2 (gId g 5) (by unfold isCf gId cId; omega)).1, eE]
      obtain ⟨W, hWd⟩ : ∃ W : Nat → Nat → Nat → Nat, W = fun y c d => if c = a ∧ d = b then f y else NT G u y c d := ⟨_, rfl⟩
      have hfb : ∀ x, f x ≤ 1000000000 := by
        intro x
        rcases hfx x with h | h
        · rw [h]; exact Nat.zero_le _
        · rw [h]; exact NT_le _ _ _ _ _
      have hWb : ∀ x c d, W x c d ≤ 1000000000 := by
        intro x c d
        rw [hWd]
        dsimp only
        by_cases h : c = a ∧ d = b
        · rw [if_pos h]; exact hfb x
        · rw [if_neg h]; exact NT_le _ _ _ _ _
      have hWF : FP (fw G 1000000) W := by
        intro x c d hcd hn0
        rw [hWd] at hn0
        dsimp only at hn0
        by_cases h : c = a ∧ d = b
        · rw [if_pos h] at hn0
          rcases hfx x with h1 | h1
          · exact absurd h1 hn0
          · rw [h1] at hn0
            rw [h.1, h.2]
            exact NT_F w u x a b hab hn0
        · rw [if_neg h] at hn0; exact NT_F w u x c d hcd hn0
      have hCV : ∀ t2, t2.1 (cId t 3) = t'.1 (cId t 3) → CTV t e a b W t2 := by
        intro t2 e3 y c d k0 k1 k2 k3
        rw [e3, hWd]
        dsimp only
        by_cases h : c = a ∧ d = b
        · rw [if_pos h, h.1, h.2, ← hE0]; exact hc y k0
        · rw [if_neg h]
          have hlt : a < c ∨ d < b := by omega
          have hne' := hne c d k1 k2 k3 hlt
          rw [← hE0] at hne'
          rw [ho _ (by omega)]
          exact hs y c d k0 k1 k2 k3 hlt
      obtain ⟨F, hF⟩ : ∃ F : Nat → Nat, F = fun p => sL u W (G.2.2.2 p) (G.2.2.1 p) a b := ⟨_, rfl⟩
      have hpos : rI G 6 (o i) = true := hxr
      simp (disch := omega) only [show fX9_ordered t' = some (t'.1 7 5, t') from rfl, r75, bd_ok, le_ok, if_neg]
      unfold fX9_inOrder
      simp (disch := omega) only [ra_ok, bd_ok, r12, (begE t' hf).1, nI_add]
      rw [lN0]
      refine wp_for3 E (by omega) (fun p v t2 => B ≤ p ∧ Fr (fun q => q = cId t 4) t' t2 ∧ ∃ m, v = lN m ∧ m ≤ p * 1000000000 ∧ se m (pS G F (o i) p)) ?_ ?_ n B _ t' hBE ⟨Nat.le_refl _, Fr.rf, 0, rfl, Nat.zero_le _, ?_⟩ (by omega)
      · rintro rec3 p v t2 hp ⟨hBp, hf2, m, rfl, hm, hse⟩ ih3
        have hp1 : p < G.1 := by omega
        have hpl : G.2.1 p = o i := (hrng p hp1).mpr ⟨hBp, hp⟩
        have hfs : Fr (isCf t) s t2 := hf.tr (hf2.wk (fun q hq => Or.inr hq))
        have h92 : TLS G G.1 (t2.1 9) := by rw [(hfs 9 (by unfold isCf cId; omega)).1]; exact h9
        have eS : pS G F (o i) (p + 1) = pS G F (o i) p + F p := by
          show pS G F (o i) p + (if G.2.1 p = o i then F p else 0) = _
          rw [if_pos hpl]
        have esR : sR (fw G 1000000) (G.2.2.2 p) (G.2.2.1 p - 0) 0 = sm (fw G 1000000) (G.2.2.2 p) (G.2.2.1 p) := by rw [Nat.sub_zero, sR_sm]
        simp (disch := omega) only [(begE t2 hfs).2, bd_ok, le_ok, if_neg, tails_c w h92 hp1 (Nat.zero_le _), esR, nI_subN, lt_ok, jn_def, nI_add]
        by_cases hlt : b - a < min 1000000 (sm (fw G 1000000) (G.2.2.2 p) (G.2.2.1 p))
        · rw [if_pos hlt]
          refine ih3 _ _ ⟨by omega, hf2, m, rfl, Nat.le_trans hm (Nat.mul_le_mul_right _ (Nat.le_succ p)), ?_⟩
          have hz : F p = 0 := by
            rw [hF]
            refine Classical.byContradiction (fun hne0 => ?_)
            have := (sL_F hWF _ _ hne0).2
            omega
          rw [eS, hz, Nat.add_zero]
          exact hse
        · rw [if_neg hlt]
          have hG2 := hG.fr hfs (fun k hk => by unfold isCf gId cId; omega)
          have h22 : CTB t e a b t2 := fun c d k1 k2 k3 => by rw [(hfs (cId t 2) (by unfold isCf cId; omega)).1]; exact h2 c d k1 k2 k3
          refine wp_call (waysOf_c (u := u) hG2 w h92 h22 (hCV t2 (hf2 (cId t 3) (by unfold cId; omega)).1) hWb hWF (fun m k1 k2 => by rw [(hfs (cId t 1) (by unfold isCf cId; omega)).1]; exact hu m k1 k2) hab hb hp1 hg (by omega) (by omega)) (fun r t3 ⟨hf3, er⟩ => ?_)
          have hsl := sat_le (sL u W (G.2.2.2 p) (G.2.2.1 p) a b)
          rw [er, nIl_ok (by omega), lN_add]
          refine ih3 _ _ ⟨by omega, hf2.tr hf3, _, rfl, by omega, ?_⟩
          rw [eS]
          refine se_add hse ?_
          rw [hF]
          exact se_sat _
      · rintro rec3 v t2 ⟨hBp, hf2, m, rfl, hm, hse⟩
        have hfs : Fr (isCf t) s t2 := hf.tr (hf2.wk (fun q hq => Or.inr hq))
        have hm2 : m ≤ 16000000000 := by omega
        simp (disch := omega) only [(begE t2 hfs).2, bd_ok, le_ok, if_pos, nI_add, wa_ok, cl_ok, minL, lN_i]
        have e3 : t2.1 (cId t 3) = t'.1 (cId t 3) := (hf2 (cId t 3) (by unfold cId; omega)).1
        have hval : sat m = NT G u (o i) a b := by
          have hh : pS G F (o i) G.1 = pS G F (o i) E := by
            have := pS_hi (G := G) (f := F) (x := o i) (m := E) (G.1 - E) (fun p k1 k2 hx => by
              have := (hrng p (by omega)).mp hx
              omega)
            rw [show E + (G.1 - E) = G.1 by omega] at this
            exact this
          have hst : se (pS G F (o i) G.1) (NN G u (o i) a b) := by
            rw [hF]
            refine NN_step w hA u hWF hab (by omega) hx6 hxr (fun y c d hy hry k1 k2 k3 k4 => ?_) (fun y hy hry hzy => ?_)
            · rw [hWd]
              dsimp only
              rw [if_neg (by omega), NT_r hry]
              exact se_sat _
            · rw [hWd]
              dsimp only
              rw [if_pos ⟨rfl, rfl⟩]
              obtain ⟨j, hj, ej⟩ := hO.2 i hi y hy hry hzy
              have := hfo j hj
              rw [ej] at this
              rw [this, NT_r hry]
              exact se_sat _
          rw [hh] at hst
          rw [NT_r hxr]
          exact se_tr hse hst
        rw [hval]
        refine ih2 _ ⟨hfs.tr (Fr.si (Or.inl rfl)), ⟨fun x => if x = o i then NT G u (o i) a b else f x, fun x hx => ?_, fun x => ?_, fun j hj => ?_⟩, fun k hk => ?_⟩
        · rw [si_q]
          dsimp only
          by_cases ex : x = o i
          · rw [if_pos (by omega), if_pos ex]
          · rw [if_neg (by omega), if_neg ex, e3]; exact hc x hx
        · dsimp only
          by_cases ex : x = o i
          · rw [if_pos ex, ex]; exact Or.inr rfl
          · rw [if_neg ex]; exact hfx x
        · dsimp only
          by_cases ex : o j = o i
          · rw [if_pos ex, ex]
          · rw [if_neg ex]
            by_cases ej : j = i
            · rw [ej] at ex; exact absurd rfl ex
            · exact hfo j (by omega)
        · rw [si_q]
          dsimp only
          rw [if_neg (by omega), e3]
          exact ho k hk
      · rw [pS_lo B (fun p hp hx => by
          have := (hrng p (by omega)).mp hx
          omega)]
        rfl
    · rintro rec2 t' ⟨hf, ⟨f, hc, hfx, hfo⟩, ho⟩
      have r75 : t'.1 7 5 = nI M := by rw [(hf 7 (by unfold isCf cId; omega)).1]; exact h75
      simp (disch := omega) only [show fX9_ordered t' = some (t'.1 7 5, t') from rfl, r75, bd_ok, le_ok, if_pos]
      refine wp_some ⟨hf, fun x hx => ?_, ho⟩
      rw [hc x hx]
      by_cases hr : rI G 6 x = true
      · obtain ⟨j, hj, ej⟩ := hall x hx hr
        have := hfo j hj
        rw [ej] at this
        rw [this]
      · have : NT G u x a b = 0 := by unfold NT; rw [if_neg hr]
        rcases hfx x with h | h
        · rw [h, this]
        · rw [h]
/-- the entries of the table of inputs -/
def EN (s : PH) : Prop := ∀ a b, a ≤ b → b < 9 → s.1 140 (9 * a + b) = nI (6 * (9 * a + b))
/-- an input has been counted -/
def CNT (G : Gr) (L : Nat) (u : Nat → Nat) (s : PH) : Prop := (∀ x a b, x < 6 → a ≤ b → b ≤ L → s.1 141 (6 * (9 * a + b) + x) = nI (NT G u x a b)) ∧ ∀ i, i < L → s.1 139 i = nI (u i)
def isTt (q : Nat) : Prop := q = 24 ∨ q = 139 ∨ q = 141 ∨ q = 142
theorem total_c {G : Gr} {L : Nat} {tx : Nat → Nat} {s : PH} (hX : XG G s) (w : WG G) (hT : TX L tx s) (hI : INP L tx) (hA : ACY G) (hE : EN s) (h5 : s.1 24 5 = nI 0) {n : Nat} (hn : 30 ≤ n) : wp (fX2_total n (s.2.2 0 8) s) (fun r t => Fr isTt s t ∧ r = nI (NT G (fun i => tx i - 97) (G.2.1 0) 0 L) ∧ t.1 24 5 = nI 1 ∧ t.1 24 6 = s.1 24 6 ∧ t.1 24 7 = nI L ∧ t.1 24 8 = nI (NT G (fun i => tx i - 97) (G.2.1 0) 0 L) ∧ CNT G L (fun i => tx i - 97) t) := by
  have hL := hI.1
  obtain ⟨_, h11, _, hx⟩ := hT
  obtain ⟨u, hu⟩ : ∃ u : Nat → Nat, u = fun i => tx i - 97 := ⟨_, rfl⟩
  rw [← hu]
  have hu5 : ∀ i, i < L → u i < 5 := fun i hi => by have := hI.2 i hi; rw [hu]; show tx i - 97 < 5; omega
  unfold fX2_total fX8_size
  rw [h5, if_pos n0_0]
  simp (disch := omega) only [bd_ok, h11, lt_ok, if_neg, lt_def]
  refine wp_for2 L (by omega) (fun i t => Fr isTt s t ∧ t.1 24 6 = s.1 24 6 ∧ t.1 24 7 = nI L ∧ ∀ k, k < i → t.1 139 k = nI (u k)) ?_ ?_ n 0 _ (by omega) ⟨Fr.si (Or.inl rfl), by simp [si_1], by simp [si_1], fun k hk => absurd hk (Nat.not_lt_zero k)⟩ (by omega)
  · rintro rec i t hi ⟨hf, h6, h7, hl⟩ ih
    have r11 : t.1 1 1 = nI L := by rw [(hf 1 (by unfold isTt; omega)).1]; exact h11
    have r2 : t.1 2 i = nI (tx i) := by rw [(hf 2 (by unfold isTt; omega)).1]; exact (hx i hi).1
    have h97 := hI.2 i hi
    unfold fX8_letterAt fX8_at fX1_setLetter
    simp (disch := omega) only [h7, le_ok, if_neg, lt0_ok, if_false, r11, ra_ok, r2, bd_ok, nI_subN, wa_ok, cl_ok, lt_def, nI_add]
    refine ih _ ⟨hf.tr (Fr.si (by unfold isTt cId; omega)), ?_, ?_, fun k hk => ?_⟩
    · rw [si_r _ _ _ _ (by unfold cId; decide)]; exact h6
    · rw [si_r _ _ _ _ (by unfold cId; decide)]; exact h7
    · rw [show (139 : Nat) = cId 0 1 from rfl, si_q]
      dsimp only
      by_cases ek : k = i
      · rw [if_pos ek, hu, ek]
      · rw [if_neg ek]; exact hl k (by omega)
  · rintro rec t ⟨hf, h6, h7, hl⟩
    simp (disch := omega) only [h7, le_ok, if_pos]
    refine wp_for2 (L + 1) (by omega) (fun m t => Fr isTt s t ∧ t.1 24 6 = s.1 24 6 ∧ t.1 24 7 = nI L ∧ (∀ k, k < L → t.1 139 k = nI (u k)) ∧ ∀ x a b, x < 6 → a ≤ b → b ≤ L → b - a < m → t.1 141 (6 * (9 * a + b) + x) = nI (NT G u x a b)) ?_ ?_ n 0 t (by omega) ⟨hf, h6, h7, hl, fun x a b _ _ _ h => absurd h (Nat.not_lt_zero _)⟩ (by omega)
    · rintro rec2 m t hm ⟨hf, h6, h7, hl, hc⟩ ih2
      simp (disch := omega) only [h7, lt_ok, if_neg]
      refine wp_for2 (L + 1 - m) (by omega) (fun a t => Fr isTt s t ∧ t.1 24 6 = s.1 24 6 ∧ t.1 24 7 = nI L ∧ (∀ k, k < L → t.1 139 k = nI (u k)) ∧ ∀ x c d, x < 6 → c ≤ d → d ≤ L → (d - c < m ∨ (d - c = m ∧ c < a)) → t.1 141 (6 * (9 * c + d) + x) = nI (NT G u x c d)) ?_ ?_ n 0 t (by omega) ⟨hf, h6, h7, hl, fun x c d k0 k1 k2 k3 => hc x c d k0 k1 k2 (by omega)⟩ (by omega)
      · rintro rec3 a t ha ⟨hf, h6, h7, hl, hc⟩ ih3
        have hXt := hX.fr w hf (fun q hq => by unfold isTt; omega)
        have eg : t.2.2 0 8 = s.2.2 0 8 := by rw [(hf 0 (by unfold isTt; omega)).2.2]
        have hG' := hXt.2.1
        rw [eg] at hG'
        have hB : CTB 0 (fun c d => 9 * c + d) a (a + m) t := fun c d k1 k2 k3 => by
          refine ⟨?_, ?_⟩
          · rw [show cId 0 2 = 140 from rfl, (hf 140 (by unfold isTt; omega)).1]
            exact hE c d k2 (by omega)
          · show 6 * (9 * c + d) + 6 ≤ 486
            omega
        simp (disch := omega) only [h7, nI_add, lt_ok, if_neg]
        refine wp_call (fill_c2 (t := 0) (e := fun c d => 9 * c + d) (u := u) hG' hX.1 w hXt.2.2.1 hA hB (fun c d k1 k2 k3 k4 => by omega) (fun y c d k0 k1 k2 k3 k4 => hc y c d k0 k2 (by omega) (by omega)) (fun i k1 k2 => ⟨hl i (by omega), hu5 i (by omega)⟩) (show a ≤ a + m by omega) (by omega) hn) (fun _ t2 ⟨hf2, hn2, ho2⟩ => ?_)
        have f24 : t2.1 24 = t.1 24 := (hf2 24 (by unfold isCf cId; omega)).1
        have f139 : t2.1 139 = t.1 139 := (hf2 139 (by unfold isCf cId; omega)).1
        refine ih3 _ ⟨hf.tr (hf2.wk (fun q hq => by unfold isCf cId at hq; unfold isTt; omega)), by rw [f24]; exact h6, by rw [f24]; exact h7, by rw [f139]; exact hl, fun x c d k0 k1 k2 k3 => ?_⟩
        by_cases ecd : c = a ∧ d = a + m
        · rw [ecd.1, ecd.2]; exact hn2 x k0
        · have h141 := ho2 (6 * (9 * c + d) + x) (by omega)
          rw [show cId 0 3 = 141 from rfl] at h141
          rw [h141]
          exact hc x c d k0 k1 k2 (by omega)
      · rintro rec3 t ⟨hf, h6, h7, hl, hc⟩
        simp (disch := omega) only [h7, nI_add, lt_ok, if_pos]
        exact ih2 _ ⟨hf, h6, h7, hl, fun x c d k0 k1 k2 k3 => hc x c d k0 k1 k2 (by omega)⟩
    · rintro rec2 t ⟨hf, h6, h7, hl, hc⟩
      have hXt := hX.fr w hf (fun q hq => by unfold isTt; omega)
      have eg : t.2.2 0 8 = s.2.2 0 8 := by rw [(hf 0 (by unfold isTt; omega)).2.2]
      have hG' := hXt.2.1
      rw [eg] at hG'
      have hB : CTB 0 (fun c d => 9 * c + d) 0 L t := fun c d k1 k2 k3 => by
        refine ⟨?_, ?_⟩
        · rw [show cId 0 2 = 140 from rfl, (hf 140 (by unfold isTt; omega)).1]
          exact hE c d k2 (by omega)
        · show 6 * (9 * c + d) + 6 ≤ 486
          omega
      have hV : CTV 0 (fun c d => 9 * c + d) 0 L (NT G u) t := fun y c d k0 k1 k2 k3 => hc y c d k0 k2 k3 (by omega)
      have hst : G.2.1 0 < 6 := lft6 w w.1.1
      simp (disch := omega) only [h7, lt_ok, if_pos, start_c hG' w, bd_ok, count_t hB hV hL hst (Nat.zero_le _) (Nat.zero_le _) (Nat.le_refl _)]
      have e8 : (si (si t 24 8 (nI (NT G u (G.2.1 0) 0 L))) 24 5 (nI 1)).1 24 8 = nI (NT G u (G.2.1 0) 0 L) := by simp [si_1]
      rw [e8]
      refine wp_some ⟨(hf.tr (Fr.si (Or.inl rfl))).tr (Fr.si (Or.inl rfl)), rfl, by simp [si_1], ?_, ?_, e8, ?_, ?_⟩
      · simp [si_1]; exact h6
      · simp [si_1]; exact h7
      · intro x a b k0 k1 k2
        rw [si_r _ _ _ _ (by decide), si_r _ _ _ _ (by decide)]
        exact hc x a b k0 k1 k2 (by omega)
      · intro i hi
        rw [si_r _ _ _ _ (by decide), si_r _ _ _ _ (by decide)]
        exact hl i hi
