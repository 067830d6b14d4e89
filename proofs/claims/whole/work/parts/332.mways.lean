/-! ===== the reference: in how many ways ===== -/
theorem held_m {v : Nat} (h : v < 9223372036854775808) (s : PH) : fX12_held (lN v) s = some (lN (sat v), s) := by
  unfold fX12_held sat
  have e : (1000000000 : Int64) = lN 1000000000 := by decide +kernel
  rw [e]
  simp (disch := omega) only [lle_ok]
  by_cases hv : v ≤ 1000000000
  · rw [if_pos hv, Nat.min_eq_right hv]
  · rw [if_neg hv, Nat.min_eq_left (by omega)]
theorem mul_b {a b : Nat} (ha : a ≤ 1000000000) (hb : b ≤ 1000000000) : a * b ≤ 1000000000000000000 := Nat.le_trans (Nat.mul_le_mul ha hb) (by omega)
/-- the table of the reference; the letters of its word -/
def WT (V : Nat → Nat → Nat → Nat) (s : PH) : Prop := ∀ x a b, x < 6 → a ≤ b → b < 9 → s.2.1 168 (81 * x + 9 * a + b) = lN (V x a b)
def UT (u : Nat → Nat) (L : Nat) (s : PH) : Prop := ∀ i, i < L → s.1 166 i = nI (u i)
theorem waysOf_m {V : Nat → Nat → Nat → Nat} {s : PH} (h : WT V s) {x a b : Nat} (hx : x < 6) (hab : a ≤ b) (hb : b < 9) : fX12_waysOf (nI x) (nI a) (nI b) s = some (lN (V x a b), s) := by
  unfold fX12_waysOf
  simp (disch := omega) only [nI_mulN, nI_add, ra_ok]
  rw [h x a b hx hab hb]
theorem TT_s (f : Nat → Nat) {a k e : Nat} (hak : a ≤ k) : rs f a (min (k + 1) (e + 1) - a) = rs f a (min k (e + 1) - a) + if k ≤ e then f k else 0 := by
  by_cases h : k ≤ e
  · rw [if_pos h, show min (k + 1) (e + 1) - a = (k - a) + 1 by omega, show min k (e + 1) - a = k - a by omega]
    show rs f a (k - a) + f (a + (k - a)) = _
    rw [show a + (k - a) = k by omega]
  · rw [if_neg h, show min (k + 1) (e + 1) - a = min k (e + 1) - a by omega]
    rfl
def isD (q : Nat) : Prop := q = 169 ∨ q = 170
set_option maxHeartbeats 1000000 in
theorem sideWays_m {G : Gr} {s : PH} {V : Nat → Nat → Nat → Nat} {u : Nat → Nat} {L : Nat} {Φ : Int64 → PH → Prop} (hM : MG G (s.1 149)) (w : WG G) (hW : WT V s) (hV : ∀ x a b, V x a b ≤ 1000000000) (hu : UT u L s) (hu5 : ∀ i, i < L → u i < 5) (hL : L ≤ 8) {p a b n : Nat} (hp : p < G.1) (hab : a ≤ b) (hb : b ≤ L) (hn : 20 ≤ n) (K : ∀ r t, Fr isD s t → r = lN (sat (sL u V (G.2.2.2 p) (G.2.2.1 p) a b)) → Φ r t) : wp (fX12_sideWays n (nI p) (nI a) (nI b) s) Φ := by
  have h5 := (w.2.1 p hp).2
  unfold fX12_sideWays
  simp only [lt_def]
  refine wp_for2 (b + 1) (by omega) (fun j t => a ≤ j ∧ Fr isD s t ∧ ∀ k, a ≤ k → k < j → t.2.1 169 k = lN (sat (sL u V (G.2.2.2 p) 0 a k))) ?_ ?_ n a s (by omega) ⟨Nat.le_refl _, Fr.rf, fun k h1 h2 => by omega⟩ (by omega)
  · rintro rec j t hj ⟨haj, hf, h9⟩ ih
    have fin : ∀ v, v = sat (sL u V (G.2.2.2 p) 0 a j) → wp (rec (nI (j + 1)) (sl t 169 j (lN v))) Φ := by
      intro v ev
      refine ih _ ⟨by omega, hf.tr (Fr.sl (Or.inl rfl)), fun k h1 h2 => ?_⟩
      rw [sl_q]
      dsimp only
      by_cases e : k = j
      · rw [if_pos e, ev, e]
      · rw [if_neg e]; exact h9 k h1 (by omega)
    simp (disch := omega) only [lt_ok, if_neg, jn_def, nI_add, eq_ok, wa_ok, cl_ok]
    by_cases e : j = a
    · rw [if_pos e, lN1]
      refine fin 1 ?_
      show 1 = sat (if a = j then 1 else 0)
      rw [if_pos e.symm]
      rfl
    · rw [if_neg e, lN0]
      refine fin 0 ?_
      show 0 = sat (if a = j then 1 else 0)
      rw [if_neg (fun h => e h.symm)]
      rfl
  · rintro rec t ⟨haj, hf, h9⟩
    simp (disch := omega) only [lt_ok, if_pos]
    refine wp_for2 (G.2.2.1 p) (by omega) (fun i t => Fr isD s t ∧ ∀ k, a ≤ k → k ≤ b → t.2.1 169 k = lN (sat (sL u V (G.2.2.2 p) i a k))) ?_ ?_ n 0 t (by omega) ⟨hf, fun k h1 h2 => h9 k h1 (by omega)⟩ (by omega)
    · rintro rec2 i t hi ⟨hf, h9⟩ ih2
      have hMt : MG G (t.1 149) := hM.fr hf (by unfold isD; omega)
      have hy := sy16 w hp hi
      simp (disch := omega) only [size_e hMt w hp, bd_ok, le_ok, if_neg]
      refine wp_for2 (b + 1) (by omega) (fun j t' => a ≤ j ∧ Fr isD s t' ∧ t'.2.1 169 = t.2.1 169 ∧ ∀ k, a ≤ k → k < j → t'.2.1 170 k = lN 0) ?_ ?_ n a t (by omega) ⟨Nat.le_refl _, hf, rfl, fun k h1 h2 => by omega⟩ (by omega)
      · rintro rec3 j t' hj ⟨haj, hf', e9, h0⟩ ih3
        simp (disch := omega) only [lt_ok, if_neg, nI_add, wa_ok, cl_ok]
        refine ih3 _ ⟨by omega, hf'.tr (Fr.sl (Or.inr rfl)), by rw [sl_r _ _ _ _ (by decide)]; exact e9, fun k h1 h2 => ?_⟩
        rw [sl_q]
        dsimp only
        by_cases e : k = j
        · rw [if_pos e]; exact lN0
        · rw [if_neg e]; exact h0 k h1 (by omega)
      · rintro rec3 t1 ⟨_, hf1, e91, h01⟩
        simp (disch := omega) only [lt_ok, if_pos]
        obtain ⟨F, hF⟩ : ∃ F : Nat → Nat → Nat, F = fun e m => sL u V (G.2.2.2 p) i a m * sy u V (G.2.2.2 p i) m e := ⟨_, rfl⟩
        refine wp_for2 (b + 1) (by omega) (fun k t' => a ≤ k ∧ Fr isD s t' ∧ t'.2.1 169 = t.2.1 169 ∧ ∀ e, a ≤ e → e ≤ b → t'.2.1 170 e = lN (sat (rs (F e) a (min k (e + 1) - a)))) ?_ ?_ n a t1 (by omega) ⟨Nat.le_refl _, hf1, e91, fun e h1 h2 => ?_⟩ (by omega)
        · rintro rec4 k t' hk ⟨hak, hf', e9, hT⟩ ih4
          have hM' : MG G (t'.1 149) := hM.fr hf' (by unfold isD; omega)
          have hW' : WT V t' := fun x a b h1 h2 h3 => by rw [(hf' 168 (by unfold isD; omega)).2.1]; exact hW x a b h1 h2 h3
          have r9 : t'.2.1 169 k = lN (sat (sL u V (G.2.2.2 p) i a k)) := by rw [e9]; exact h9 k hak (by omega)
          have hsl := sat_le (sL u V (G.2.2.2 p) i a k)
          have skip : (∀ e, k ≤ e → e ≤ b → F e k = 0) → wp (rec4 (nI (k + 1)) t') Φ := by
            intro hz
            refine ih4 _ ⟨by omega, hf', e9, fun e h1 h2 => ?_⟩
            rw [TT_s _ hak, hT e h1 h2]
            by_cases hke : k ≤ e
            · rw [if_pos hke, hz e hke h2]; rfl
            · rw [if_neg hke]; rfl
          simp (disch := omega) only [lt_ok, if_neg, ra_ok, jn_def, nI_add, r9, lN0, lle_ok, at_e hM' w hp hi, bd_ok, le_ok]
          by_cases h0 : sat (sL u V (G.2.2.2 p) i a k) ≤ 0
          · rw [if_pos h0, if_pos h0]
            refine skip (fun e _ _ => ?_)
            rw [hF]
            show sL u V (G.2.2.2 p) i a k * _ = 0
            rw [sat_0.mp (Nat.le_zero.mp h0), Nat.zero_mul]
          · rw [if_neg h0]
            by_cases h10 : 10 ≤ G.2.2.2 p i
            · rw [if_pos h10]
              refine wp_for2 (b + 1) (by omega) (fun j t2 => k ≤ j ∧ Fr isD s t2 ∧ t2.2.1 169 = t.2.1 169 ∧ ∀ e, a ≤ e → e ≤ b → t2.2.1 170 e = lN (sat (rs (F e) a (min (if e < j then k + 1 else k) (e + 1) - a)))) ?_ ?_ n k t' (by omega) ⟨Nat.le_refl _, hf', e9, fun e h1 h2 => ?_⟩ (by omega)
              · rintro rec5 j t2 hj ⟨hkj, hf2, e92, hT2⟩ ih5
                have hM2 : MG G (t2.1 149) := hM.fr hf2 (by unfold isD; omega)
                have hW2 : WT V t2 := fun x a b h1 h2 h3 => by rw [(hf2 168 (by unfold isD; omega)).2.1]; exact hW x a b h1 h2 h3
                have r92 : t2.2.1 169 k = lN (sat (sL u V (G.2.2.2 p) i a k)) := by rw [e92]; exact h9 k hak (by omega)
                have hTj := hT2 j (by omega) (by omega)
                rw [if_neg (Nat.lt_irrefl j)] at hTj
                have hv := hV (G.2.2.2 p i - 10) k j
                have hm := mul_b hsl hv
                have hs1 := sat_le (rs (F j) a (min k (j + 1) - a))
                simp (disch := omega) only [lt_ok, if_neg, nI_add, ra_ok, at_e hM2 w hp hi, bd_ok, nI_subN, waysOf_m hW2, r92, hTj, lN_mul, lN_add, held_m, wa_ok, cl_ok]
                have ev : sat (sat (rs (F j) a (min k (j + 1) - a)) + sat (sL u V (G.2.2.2 p) i a k) * V (G.2.2.2 p i - 10) k j) = sat (rs (F j) a (min (k + 1) (j + 1) - a)) := by
                  rw [← sat_id hv, sat_fma, TT_s _ hak, if_pos hkj, hF]
                  show _ = sat (_ + sL u V (G.2.2.2 p) i a k * sy u V (G.2.2.2 p i) k j)
                  unfold sy
                  rw [if_neg (by omega)]
                rw [ev]
                refine ih5 _ ⟨by omega, hf2.tr (Fr.sl (Or.inr rfl)), by rw [sl_r _ _ _ _ (by decide)]; exact e92, fun e h1 h2 => ?_⟩
                rw [sl_q]
                dsimp only
                by_cases ee : e = j
                · rw [if_pos ee, if_pos (by omega), ee]
                · rw [if_neg ee, hT2 e h1 h2]
                  by_cases hlt : e < j
                  · rw [if_pos hlt, if_pos (by omega)]
                  · rw [if_neg hlt, if_neg (by omega)]
              · rintro rec5 t2 ⟨hkj, hf2, e92, hT2⟩
                simp (disch := omega) only [lt_ok, if_pos]
                refine ih4 _ ⟨by omega, hf2, e92, fun e h1 h2 => ?_⟩
                rw [hT2 e h1 h2, if_pos (by omega)]
              · rw [hT e h1 h2]
                by_cases hlt : e < k
                · rw [if_pos hlt, show min (k + 1) (e + 1) = min k (e + 1) by omega]
                · rw [if_neg hlt]
            · rw [if_neg h10]
              have hsy : ∀ e, sy u V (G.2.2.2 p i) k e = if e = k + 1 ∧ u k = G.2.2.2 p i then 1 else 0 := by
                intro e
                unfold sy
                rw [if_pos (by omega)]
              by_cases hbk : b ≤ k
              · rw [if_pos hbk]
                refine skip (fun e h1 h2 => ?_)
                rw [hF]
                show _ * sy u V (G.2.2.2 p i) k e = 0
                rw [hsy, if_neg (by omega), Nat.mul_zero]
              · rw [if_neg hbk]
                have huk : t'.1 166 k = nI (u k) := by rw [(hf' 166 (by unfold isD; omega)).1]; exact hu k (by omega)
                have := hu5 k (by omega)
                have hT1 := hT (k + 1) (by omega) (by omega)
                have hs1 := sat_le (rs (F (k + 1)) a (min k (k + 1 + 1) - a))
                simp (disch := omega) only [ra_ok, huk, eq_ok, r9, hT1, lN_add, held_m, wa_ok, cl_ok, bd_ok]
                by_cases huq : u k = G.2.2.2 p i
                · rw [if_pos huq]
                  have ev : sat (sat (rs (F (k + 1)) a (min k (k + 1 + 1) - a)) + sat (sL u V (G.2.2.2 p) i a k)) = sat (rs (F (k + 1)) a (min (k + 1) (k + 1 + 1) - a)) := by
                    rw [TT_s _ hak, if_pos (by omega), hF]
                    show _ = sat (_ + sL u V (G.2.2.2 p) i a k * sy u V (G.2.2.2 p i) k (k + 1))
                    rw [hsy, if_pos ⟨rfl, huq⟩, Nat.mul_one]
                    exact se_add (se_sat _) (se_sat _)
                  rw [ev]
                  refine ih4 _ ⟨by omega, hf'.tr (Fr.sl (Or.inr rfl)), by rw [sl_r _ _ _ _ (by decide)]; exact e9, fun e h1 h2 => ?_⟩
                  rw [sl_q]
                  dsimp only
                  by_cases ee : e = k + 1
                  · rw [if_pos ee, ee]
                  · rw [if_neg ee, hT e h1 h2, TT_s _ hak]
                    have : (if k ≤ e then F e k else 0) = 0 := by
                      by_cases hke : k ≤ e
                      · rw [if_pos hke, hF]
                        show _ * sy u V (G.2.2.2 p i) k e = 0
                        rw [hsy, if_neg (fun h => ee h.1), Nat.mul_zero]
                      · rw [if_neg hke]
                    rw [this]
                    rfl
                · rw [if_neg huq]
                  refine skip (fun e _ _ => ?_)
                  rw [hF]
                  show _ * sy u V (G.2.2.2 p i) k e = 0
                  rw [hsy, if_neg (fun h => huq h.2), Nat.mul_zero]
        · rintro rec4 t' ⟨_, hf', e9, hT⟩
          simp (disch := omega) only [lt_ok, if_pos]
          refine wp_for2 (b + 1) (by omega) (fun j t2 => a ≤ j ∧ Fr isD s t2 ∧ (∀ e, a ≤ e → e ≤ b → t2.2.1 170 e = t'.2.1 170 e) ∧ ∀ k, a ≤ k → k < j → t2.2.1 169 k = lN (sat (sL u V (G.2.2.2 p) (i + 1) a k))) ?_ ?_ n a t' (by omega) ⟨Nat.le_refl _, hf', fun _ _ _ => rfl, fun k h1 h2 => by omega⟩ (by omega)
          · rintro rec5 j t2 hj ⟨haj, hf2, e0, h92⟩ ih5
            have r0 := e0 j haj (by omega)
            rw [hT j haj (by omega)] at r0
            simp (disch := omega) only [lt_ok, if_neg, nI_add, ra_ok, wa_ok, cl_ok, r0]
            refine ih5 _ ⟨by omega, hf2.tr (Fr.sl (Or.inl rfl)), fun e h1 h2 => by rw [sl_r _ _ _ _ (by decide)]; exact e0 e h1 h2, fun k h1 h2 => ?_⟩
            rw [sl_q]
            dsimp only
            by_cases e : k = j
            · rw [if_pos e, e, hF, show min (b + 1) (j + 1) = j + 1 by omega]
              rfl
            · rw [if_neg e]; exact h92 k h1 (by omega)
          · rintro rec5 t2 ⟨_, hf2, _, h92⟩
            simp (disch := omega) only [lt_ok, if_pos, nI_add]
            exact ih2 _ ⟨hf2, fun k h1 h2 => h92 k h1 (by omega)⟩
        · rw [h01 e h1 (by omega), show min a (e + 1) - a = 0 by omega]
          rfl
    · rintro rec2 t ⟨hf, h9⟩
      have hMt : MG G (t.1 149) := hM.fr hf (by unfold isD; omega)
      simp (disch := omega) only [size_e hMt w hp, bd_ok, le_ok, if_pos, ra_ok]
      rw [h9 b hab (Nat.le_refl _)]
      exact wp_some (K _ _ hf rfl)
/-- what a round makes of a table -/
def wgh (G : Gr) (u : Nat → Nat) (V : Nat → Nat → Nat → Nat) (a b x n : Nat) : Nat := if rI G 6 x = true then sat (pS G (fun p => sL u V (G.2.2.2 p) (G.2.2.1 p) a b) x n) else 0
def isD4 (q : Nat) : Prop := 168 ≤ q ∧ q ≤ 171
def upT (V : Nat → Nat → Nat → Nat) (a b : Nat) (f : Nat → Nat) : Nat → Nat → Nat → Nat := fun x c d => if c = a ∧ d = b then f x else V x c d
theorem weighs_m {G : Gr} {s : PH} {V : Nat → Nat → Nat → Nat} {u : Nat → Nat} {L : Nat} (hM : MLd G s) (w : WG G) (hW : WT V s) (hV : ∀ x a b, V x a b ≤ 1000000000) (hu : UT u L s) (hu5 : ∀ i, i < L → u i < 5) (hL : L ≤ 8) {a b n : Nat} (hab : a ≤ b) (hb : b ≤ L) (hn : 20 ≤ n) : wp (fX12_weighs n (nI a) (nI b) s) (fun _ t => Fr isD4 s t ∧ WT (upT V a b (fun x => wgh G u V a b x G.1)) t) := by
  have h16 := w.1.2
  unfold fX12_weighs
  simp only [lt_def]
  refine wp_for2 6 (by omega) (fun j t => Fr isD4 s t ∧ t.2.1 168 = s.2.1 168 ∧ ∀ x, x < j → t.2.1 171 x = lN 0) ?_ ?_ n 0 s (by omega) ⟨Fr.rf, rfl, fun x hx => absurd hx (Nat.not_lt_zero x)⟩ (by omega)
  · rintro rec j t hj ⟨hf, e8, h0⟩ ih
    simp (disch := omega) only [le_ok, if_neg, wa_ok, cl_ok, nI_add]
    refine ih _ ⟨hf.tr (Fr.sl (by unfold isD4; omega)), by rw [sl_r _ _ _ _ (by decide)]; exact e8, fun x hx => ?_⟩
    rw [sl_q]
    dsimp only
    by_cases e : x = j
    · rw [if_pos e]; exact lN0
    · rw [if_neg e]; exact h0 x (by omega)
  · rintro rec t ⟨hf, e8, h0⟩
    simp (disch := omega) only [le_ok, if_pos]
    refine wp_for2 G.1 (by omega) (fun p t => Fr isD4 s t ∧ t.2.1 168 = s.2.1 168 ∧ ∀ x, x < 6 → t.2.1 171 x = lN (wgh G u V a b x p)) ?_ ?_ n 0 t (by omega) ⟨hf, e8, fun x hx => ?_⟩ (by omega)
    · rintro rec2 p t hp ⟨hf, e8, h1⟩ ih
      have hMt : MLd G t := hM.fr hf (fun q hq => by unfold isD4; omega)
      have hl := (w.2.1 p hp).1
      have hWt : WT V t := fun x a b h1 h2 h3 => by rw [e8]; exact hW x a b h1 h2 h3
      have hut : UT u L t := fun i hi => by rw [(hf 166 (by unfold isD4; omega)).1]; exact hu i hi
      have hw : ∀ x, wgh G u V a b x (p + 1) = if G.2.1 p = x ∧ rI G 6 x = true then sat (wgh G u V a b x p + sat (sL u V (G.2.2.2 p) (G.2.2.1 p) a b)) else wgh G u V a b x p := by
        intro x
        unfold wgh
        by_cases hr : rI G 6 x = true
        · rw [if_pos hr, if_pos hr]
          show sat (pS G _ x p + if G.2.1 p = x then _ else 0) = _
          by_cases hx : G.2.1 p = x
          · rw [if_pos hx, if_pos ⟨hx, hr⟩]
            exact Eq.symm (se_add (se_sat _) (se_sat _))
          · rw [if_neg hx, if_neg (fun h => hx h.1)]; rfl
        · rw [if_neg hr, if_neg hr, if_neg (fun h => hr h.2)]
      simp (disch := omega) only [many_e hMt.1, bd_ok, le_ok, if_neg, left_e hMt.1 w hp, ra_ok, jn_def, nI_add]
      rw [hMt.2.2.2.1 _ hl]
      simp only [bI_0]
      by_cases hr : rI G 6 (G.2.1 p) = false
      · rw [if_pos hr]
        refine ih _ ⟨hf, e8, fun x hx => ?_⟩
        rw [hw x, if_neg, h1 x hx]
        rintro ⟨rfl, h⟩
        rw [hr] at h
        cases h
      · rw [if_neg hr]
        have hr' : rI G 6 (G.2.1 p) = true := by simpa using hr
        refine wp_call (sideWays_m hMt.1 w hWt hV hut hu5 hL hp hab hb hn (Φ := fun r t2 => Fr isD t t2 ∧ r = lN (sat (sL u V (G.2.2.2 p) (G.2.2.1 p) a b))) (fun r t2 h1 h2 => ⟨h1, h2⟩)) (fun r t2 ⟨hf2, er⟩ => ?_)
        have hwl : wgh G u V a b (G.2.1 p) p ≤ 1000000000 := by
          unfold wgh
          rw [if_pos hr']
          exact sat_le _
        have hs2 := sat_le (sL u V (G.2.2.2 p) (G.2.2.1 p) a b)
        rw [h1 _ hl, er]
        simp (disch := omega) only [lN_add, held_m, bd_ok, wa_ok, cl_ok]
        refine ih _ ⟨(hf.tr (hf2.wk (fun q hq => by unfold isD at hq; unfold isD4; omega))).tr (Fr.sl (by unfold isD4; omega)), ?_, fun x hx => ?_⟩
        · rw [sl_r _ _ _ _ (by decide), (hf2 168 (by unfold isD; omega)).2.1]; exact e8
        · rw [sl_q]
          dsimp only
          rw [hw x]
          by_cases e : x = G.2.1 p
          · rw [if_pos e, if_pos ⟨e.symm, by rw [e]; exact hr'⟩, e]
          · rw [if_neg e, if_neg (fun h => e h.1.symm), (hf2 171 (by unfold isD; omega)).2.1]
            exact h1 x hx
    · rintro rec2 t ⟨hf, e8, h1⟩
      have hMt : MLd G t := hM.fr hf (fun q hq => by unfold isD4; omega)
      simp (disch := omega) only [many_e hMt.1, bd_ok, le_ok, if_pos]
      refine wp_for2 6 (by omega) (fun j t2 => Fr isD4 s t2 ∧ t2.2.1 171 = t.2.1 171 ∧ WT (upT V a b (fun x => if x < j then wgh G u V a b x G.1 else V x a b)) t2) ?_ ?_ n 0 t (by omega) ⟨hf, rfl, fun x c d k1 k2 k3 => ?_⟩ (by omega)
      · rintro rec3 j t2 hj ⟨hf2, e7, h8⟩ ih
        have r7 : t2.2.1 171 j = lN (wgh G u V a b j G.1) := by rw [e7]; exact h1 j hj
        simp (disch := omega) only [le_ok, if_neg, ra_ok, nI_mulN, nI_add, wa_ok, cl_ok, r7]
        refine ih _ ⟨hf2.tr (Fr.sl (by unfold isD4; omega)), by rw [sl_r _ _ _ _ (by decide)]; exact e7, fun x c d k1 k2 k3 => ?_⟩
        rw [sl_q]
        dsimp only
        have h8' := h8 x c d k1 k2 k3
        unfold upT at h8' ⊢
        dsimp only at h8' ⊢
        by_cases e : 81 * x + 9 * c + d = 81 * j + 9 * a + b
        · have e1 : x = j := by omega
          have e2 : c = a := by omega
          have e3 : d = b := by omega
          rw [if_pos e, if_pos ⟨e2, e3⟩, if_pos (by omega), e1]
        · rw [if_neg e, h8']
          by_cases ecd : c = a ∧ d = b
          · rw [if_pos ecd, if_pos ecd]
            have : x ≠ j := by
              intro ex
              apply e
              rw [ex, ecd.1, ecd.2]
            by_cases hlt : x < j
            · rw [if_pos hlt, if_pos (by omega)]
            · rw [if_neg hlt, if_neg (by omega)]
          · rw [if_neg ecd, if_neg ecd]
      · rintro rec3 t2 ⟨hf2, e7, h8⟩
        simp (disch := omega) only [le_ok, if_pos]
        refine wp_some ⟨hf2, fun x c d k1 k2 k3 => ?_⟩
        rw [h8 x c d k1 k2 k3]
        unfold upT
        dsimp only
        rw [if_pos k1]
      · rw [e8, hW x c d k1 k2 k3]
        unfold upT
        dsimp only
        by_cases ecd : c = a ∧ d = b
        · rw [if_pos ecd, if_neg (Nat.not_lt_zero x), ecd.1, ecd.2]
        · rw [if_neg ecd]
    · rw [h0 x hx]
      unfold wgh
      split <;> rfl
