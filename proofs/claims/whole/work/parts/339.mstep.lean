/-! ===== the reference: a step of a derivation ===== -/
def isPm (q : Nat) : Prop := q = 172 ∨ q = 173
def SKM (G : Gr) (u : Nat → Nat) (L : Nat) (st : List Nat) (s : PH) : Prop := STK (fun i y => s.1 172 i = nI y) (fun k v => s.2.1 173 k = lN v) u (NT G u) L 0 st
/-- what the reference knows of an input -/
def KM (G : Gr) (u : Nat → Nat) (L : Nat) (s : PH) : Prop := s.1 148 24 = nI L ∧ UT u L s ∧ (∀ x a b, x < 6 → a ≤ b → b ≤ L → s.2.1 168 (81 * x + 9 * a + b) = lN (NT G u x a b)) ∧ L ≤ 8 ∧ ∀ i, i < L → u i < 5
theorem KM.fr {G : Gr} {u : Nat → Nat} {L : Nat} {s t : PH} (h : KM G u L s) (hf : Fr isPm s t) : KM G u L t := by
  unfold KM UT
  rw [(hf 148 (by unfold isPm; omega)).1, (hf 166 (by unfold isPm; omega)).1, (hf 168 (by unfold isPm; omega)).2.1]
  exact h
theorem puts_m {G : Gr} {u : Nat → Nat} {L : Nat} {st : List Nat} {s : PH} (h : KM G u L s) (hS : SKM G u L st s) {y n : Nat} (hl : st.length < 899) (hy : y < 16) (hn : 20 ≤ n) : wp (fX12_puts n (nI st.length) (nI y) s) (fun _ t => Fr isPm s t ∧ SKM G u L (y :: st) t) := by
  obtain ⟨h24, hU, hW, hL, hu5⟩ := id h
  obtain ⟨l, hll⟩ : ∃ l, l = st.length := ⟨_, rfl⟩
  rw [← hll] at hl ⊢
  have htop := STK.top st hS
  unfold fX12_puts
  simp (disch := omega) only [wa_ok, cl_ok, lt_def, nI_mulN, nI_add]
  obtain ⟨s3, hs3⟩ : ∃ s3, s3 = si s 172 l (nI y) := ⟨_, rfl⟩
  rw [← hs3]
  have f3 : Fr isPm s s3 := by rw [hs3]; exact Fr.si (Or.inl rfl)
  have a172 : s3.1 172 l = nI y := by rw [hs3]; simp [si_1]
  have a172' : ∀ k, k < l → s3.1 172 k = s.1 172 k := by
    intro k hk
    rw [hs3]
    simp [si_1, show k ≠ l by omega]
  have a173 : s3.2.1 173 = s.2.1 173 := by rw [hs3]; rfl
  refine wp_for2 (L + 1) (by omega) (fun m t => Fr isPm s t ∧ t.1 172 = s3.1 172 ∧ (∀ k, k < 9 * (l + 1) → t.2.1 173 k = s.2.1 173 k) ∧ ∀ m', m' < m → t.2.1 173 (9 * (l + 1) + m') = lN (sat (SV u (NT G u) L (y :: st) m'))) ?_ ?_ n 0 s3 (by omega) ⟨f3, rfl, fun k _ => by rw [a173], fun m' hm => absurd hm (Nat.not_lt_zero m')⟩ (by omega)
  · rintro rec m t hm ⟨hf, t172, hlow, hnew⟩ ih
    have hK := h.fr hf
    obtain ⟨t24, tU, tW, _, _⟩ := id hK
    have hV : ∀ to, to ≤ L → t.2.1 173 (9 * l + to) = lN (sat (SV u (NT G u) L st to)) := by
      intro to k2
      rw [hlow _ (by omega), hll]
      exact htop to (Nat.zero_le _) k2
    have fin : ∀ v, v = SV u (NT G u) L (y :: st) m → wp (rec (nI (m + 1)) (sl t 173 (9 * l + 9 + m) (lN (sat v)))) (fun _ t => Fr isPm s t ∧ SKM G u L (y :: st) t) := by
      intro v ev
      refine ih _ ⟨hf.tr (Fr.sl (Or.inr rfl)), t172, fun k hk => ?_, fun m' k2 => ?_⟩
      · rw [sl_q]
        dsimp only
        rw [if_neg (by omega)]
        exact hlow k hk
      · rw [sl_q]
        dsimp only
        by_cases e : m' = m
        · rw [if_pos (by omega), ev, e]
        · rw [if_neg (by omega)]; exact hnew m' (by omega)
    simp (disch := omega) only [t24, lt_ok, if_neg, jn_def, le_ok, nI_add]
    by_cases h10 : 10 ≤ y
    · rw [if_pos h10, lN0]
      refine wp_for3 (L + 1) (by omega) (fun to v t2 => m ≤ to ∧ t2 = t ∧ v = lN (sat (rs (fun to => NT G u (y - 10) m to * SV u (NT G u) L st to) m (to - m)))) ?_ ?_ n m _ t (by omega) ⟨Nat.le_refl _, rfl, by rw [Nat.sub_self]; rfl⟩ (by omega)
      · rintro rec2 to v t2 hto ⟨hmt, rfl, rfl⟩ ih2
        have hs1 := sat_le (rs (fun to => NT G u (y - 10) m to * SV u (NT G u) L st to) m (to - m))
        have hs2 := sat_le (SV u (NT G u) L st to)
        have hnt := NT_le G u (y - 10) m to
        have hmul := mul_b hnt hs2
        have es : sat (rs (fun to => NT G u (y - 10) m to * SV u (NT G u) L st to) m (to + 1 - m)) = sat (sat (rs (fun to => NT G u (y - 10) m to * SV u (NT G u) L st to) m (to - m)) + NT G u (y - 10) m to * sat (SV u (NT G u) L st to)) := by
          have e := sat_fma (rs (fun to => NT G u (y - 10) m to * SV u (NT G u) L st to) m (to - m)) (NT G u (y - 10) m to) (SV u (NT G u) L st to)
          rw [sat_id hnt] at e
          rw [e, rs_last _ hmt]
        unfold fX12_waysOf
        simp (disch := omega) only [t24, lt_ok, if_neg, nI_subN, nI_mulN, nI_add, ra_ok, bd_ok]
        rw [tW (y - 10) m to (by omega) hmt (by omega), hV to (by omega)]
        simp (disch := omega) only [lN_mul, lN_add, held_m, bd_ok]
        exact ih2 _ _ ⟨by omega, rfl, by rw [es]⟩
      · rintro rec2 v t2 ⟨hmt, rfl, rfl⟩
        simp (disch := omega) only [t24, lt_ok, if_pos, wa_ok, cl_ok]
        refine fin _ ?_
        rw [SV_cons]
        refine rs_congr _ (fun j _ => ?_)
        unfold sy
        rw [if_neg (by omega)]
    · rw [if_neg h10]
      have zero : ¬ (m < L ∧ u m = y) → wp (wa 8109 (nI (9 * l + 9 + m)) (rec (nI (m + 1)) (sl t 173 (nI (9 * l + 9 + m)).toNatClampNeg (0 : Int64)))) (fun _ t => Fr isPm s t ∧ SKM G u L (y :: st) t) := by
        intro hc
        simp (disch := omega) only [wa_ok, cl_ok]
        rw [lN0]
        have := fin 0 (by rw [SV_let (by omega), if_neg hc])
        exact this
      by_cases hle : L ≤ m
      · rw [if_pos hle]
        exact zero (by omega)
      · rw [if_neg hle]
        have hu := hu5 m (by omega)
        have rU := tU m (by omega)
        simp (disch := omega) only [ra_ok, rU, eq_ok]
        by_cases hc : u m = y
        · rw [if_pos hc]
          simp (disch := omega) only [Nat.add_assoc, ra_ok]
          rw [hV (m + 1) (by omega)]
          simp (disch := omega) only [wa_ok, cl_ok]
          have := fin (SV u (NT G u) L st (m + 1)) (by rw [SV_let (by omega), if_pos ⟨by omega, hc⟩])
          rw [Nat.add_assoc] at this
          exact this
        · rw [if_neg hc]
          exact zero (fun h => hc h.2)
  · rintro rec t ⟨hf, t172, hlow, hnew⟩
    have hK := h.fr hf
    have t24 := hK.1
    simp (disch := omega) only [t24, lt_ok, if_pos]
    refine wp_some ⟨hf, ?_, fun m _ k2 => ?_, ?_⟩
    · rw [t172, ← hll]; exact a172
    · rw [← hll]; exact hnew m (by omega)
    · refine STK.mono hL (Nat.le_refl 0) st (fun i z hi hz => ?_) (fun k v hk hz => ?_) hS
      · rw [t172, a172' i (by omega)]; exact hz
      · rw [hlow k (by omega)]; exact hz
theorem putsSide_m {G : Gr} {u : Nat → Nat} {L : Nat} {st : List Nat} {s : PH} (hM : MG G (s.1 149)) (w : WG G) (h : KM G u L s) (hS : SKM G u L st s) {p n : Nat} (hp : p < G.1) (hl : st.length + 5 ≤ 899) (hn : 20 ≤ n) : wp (fX12_putsSide n (nI st.length) (nI p) s) (fun _ t => Fr isPm s t ∧ SKM G u L (rh G p ++ st) t) := by
  have h5 := (w.2.1 p hp).2
  obtain ⟨N, hN⟩ : ∃ N, N = G.2.2.1 p := ⟨_, rfl⟩
  rw [← hN] at h5
  unfold fX12_putsSide
  simp only [size_e hM w hp, bd_ok, lt_def]
  rw [← hN]
  refine wp_dn2 (fun j t2 => j ≤ N ∧ Fr isPm s t2 ∧ SKM G u L (rhs G p (N - j) j ++ st) t2) ?_ ?_ n N s ⟨Nat.le_refl _, Fr.rf, by rw [Nat.sub_self]; exact hS⟩ (by omega)
  · rintro rec2 j t2 ⟨hjN, hf2, hS2⟩ ih2
    have hM2 : MG G (t2.1 149) := hM.fr hf2 (by unfold isPm; omega)
    have hjN' : j < G.2.2.1 p := by omega
    have h16' := sy16 w hp hjN'
    have hlen : (rhs G p (N - (j + 1)) (j + 1) ++ st).length = st.length + N - 1 - j := by rw [List.length_append, rhs_len]; omega
    rw [if_neg (nlt0 (by omega)), size_e hM2 w hp, bd_ok, at_e hM2 w hp hjN', bd_ok, ← hN]
    simp (disch := omega) only [nI_add, nI_subN]
    rw [← hlen]
    refine wp_call (puts_m (h.fr hf2) hS2 (by omega) h16' hn) (fun _ t3 ⟨hf3, hS3⟩ => ?_)
    rw [dn_m]
    refine ih2 _ ⟨by omega, hf2.tr hf3, ?_⟩
    rw [show N - j = (N - (j + 1)) + 1 by omega]
    exact hS3
  · rintro rec2 t2 ⟨_, hf2, hS2⟩
    rw [if_pos dn_neg]
    rw [Nat.sub_zero, hN] at hS2
    exact wp_some ⟨hf2, hS2⟩
theorem wp_jn1 {α A : Type} {r : A → Option (α × PH)} {b : (A → Option (α × PH)) → Option (α × PH)} {Φ : α → PH → Prop} (I : A → Prop) (hr : ∀ x, I x → wp (r x) Φ) (hb : ∀ j : A → Option (α × PH), (∀ x, I x → wp (j x) Φ) → wp (b j) Φ) : wp (jn r b) Φ := hb r hr
theorem wp_jn2 {α A B : Type} {r : A → B → Option (α × PH)} {b : (A → B → Option (α × PH)) → Option (α × PH)} {Φ : α → PH → Prop} (I : A → B → Prop) (hr : ∀ x y, I x y → wp (r x y) Φ) (hb : ∀ j : A → B → Option (α × PH), (∀ x y, I x y → wp (j x y) Φ) → wp (b j) Φ) : wp (jn r b) Φ := hb r hr
theorem wp_jn3 {α A B C : Type} {r : A → B → C → Option (α × PH)} {b : (A → B → C → Option (α × PH)) → Option (α × PH)} {Φ : α → PH → Prop} (I : A → B → C → Prop) (hr : ∀ x y z, I x y z → wp (r x y z) Φ) (hb : ∀ j : A → B → C → Option (α × PH), (∀ x y z, I x y z → wp (j x y z) Φ) → wp (b j) Φ) : wp (jn r b) Φ := hb r hr
theorem stepOf_m {G : Gr} {u : Nat → Nat} {L : Nat} {s : PH} (hM : MG G (s.1 149)) (w : WG G) (hA : ACY G) (h : KM G u L s) {j i : Nat} (hj : j < 2) (hi : i < 200) (hjt : j < NT G u (G.2.1 0) 0 L) {n : Nat} (hn : 300 ≤ n) : wp (fX12_stepOf n (lN j) (nI i) s) (fun r t => Fr isPm s t ∧ SP G u L j i r) := by
  have hL := h.2.2.2.1
  have h6 := lft6 w w.1.1
  have h16 := w.1.2
  unfold fX12_stepOf
  rw [lt_def, lt_def, lt_def, lt_def, lt_def]
  refine wp_for2 (L + 1) (by omega) (fun m t => Fr isPm s t ∧ ∀ k, k < m → t.2.1 173 k = lN (sat (SV u (NT G u) L [] k))) ?_ ?_ n 0 s (by omega) ⟨Fr.rf, fun k hk => absurd hk (Nat.not_lt_zero k)⟩ (by omega)
  · rintro rec m t hm ⟨hf, hnew⟩ ih
    have t24 := (h.fr hf).1
    rw [t24, if_neg (by rw [lt_ok (by omega) (by omega)]; omega)]
    simp (disch := omega) only [lt_def, jn_def, eq_ok, wa_ok, cl_ok, nI_add]
    have fin : ∀ v, v = sat (SV u (NT G u) L [] m) → wp (rec (nI (m + 1)) (sl t 173 m (lN v))) (fun r t => Fr isPm s t ∧ SP G u L j i r) := by
      intro v ev
      refine ih _ ⟨hf.tr (Fr.sl (Or.inr rfl)), fun k hk => ?_⟩
      rw [sl_q]
      dsimp only
      by_cases e : k = m
      · rw [if_pos e, ev, e]
      · rw [if_neg e]; exact hnew k (by omega)
    by_cases e : m = L
    · rw [if_pos e, lN1]
      refine fin 1 ?_
      show 1 = sat (if m = L then 1 else 0)
      rw [if_pos e]; rfl
    · rw [if_neg e, lN0]
      refine fin 0 ?_
      show 0 = sat (if m = L then 1 else 0)
      rw [if_neg e]; rfl
  · rintro rec t ⟨hf, hnew⟩
    have hKt := h.fr hf
    have t24 := hKt.1
    have hMt : MG G (t.1 149) := hM.fr hf (by unfold isPm; omega)
    rw [t24, if_pos (by rw [lt_ok (by omega) (by omega)]; omega), start_e hMt w, bd_ok, nI_add]
    refine wp_call (puts_m (st := []) (y := 10 + G.2.1 0) hKt (fun m _ k2 => hnew m (by omega)) (by decide) (by omega) (show 20 ≤ n by omega)) (fun _ t0 ⟨hf0, hS0⟩ => ?_)
    refine wp_loo5 (fun u12 v13 v14 v15 t => ∃ c fr lf st ps, u12 = lN lf ∧ v13 = nI fr ∧ v14 = nI st.length ∧ v15 = nI c ∧ c ≤ i ∧ Fr isPm s t ∧ CFg G u L j ps st fr lf c ∧ SKM G u L st t) (fun _ v13 _ v15 _ => 299 - v13.toNatClampNeg - v15.toNatClampNeg) ?_ n _ _ _ _ t0 ⟨0, 0, j, [10 + G.2.1 0], fun _ => 0, rfl, rfl, rfl, rfl, Nat.zero_le _, hf.tr hf0, CFg.start w _ hjt, hS0⟩ (by omega)
    rintro rec2 u12 v13 v14 v15 t ⟨c, fr, lf, st, ps, rfl, rfl, rfl, rfl, hci, hf, hCF, hS⟩ ih
    obtain ⟨hRN, hfr, hlen, hSY, hlf, hlfj⟩ := id hCF
    have hMt : MG G (t.1 149) := hM.fr hf (by unfold isPm; omega)
    rw [ilez (by omega)]
    cases st with
    | nil =>
      rw [if_pos (show ([] : List Nat).length ≤ 0 from Nat.le_refl _)]
      exact wp_some ⟨hf, Or.inr ⟨rfl, _, fr, lf, c, ps, hRN, hci⟩⟩
    | cons y st0 =>
      have el : (y :: st0).length = st0.length + 1 := rfl
      rw [el] at hlen ⊢
      have hy := hSY y List.mem_cons_self
      have r172 : t.1 172 st0.length = nI y := hS.1
      rw [if_neg (by omega), dn_m, dn_s, lt_def, ra_ok _ _ (by omega) (by decide), r172, ile (by decide) (by omega)]
      by_cases hy10 : y < 10
      · rw [if_neg (by omega), nI_add, lt_def]
        refine ih _ _ _ _ _ ⟨c, fr + 1, lf, st0, ps, rfl, rfl, rfl, rfl, hci, hf, hCF.letter hy10, hS.2.2⟩ ?_
        simp (disch := omega) only [cl_ok]
        omega
      · have hyr : 10 ≤ y ∧ y < 16 ∧ rI G 6 (y - 10) = true := by
          rcases hy with h | h
          · exact absurd h hy10
          · exact h
        have ey : 10 + (y - 10) = y := by omega
        have hex := CH.ex w hA hL hfr (show y - 10 < 6 by omega) hyr.2.2 (by rw [ey]; exact hlf)
        rw [if_pos hyr.1, ra_ok _ _ (by omega) (by decide), r172, nI_subN hyr.1, lt_def, lt_def, lt_def]
        have pS0 : lf = lf + pS G (its G u L st0 fr) (y - 10) 0 := by
          show lf = lf + 0
          rw [Nat.add_zero]
        refine wp_loo4 (fun u24 v25 v26 t2 => ∃ q, v26 = nI q ∧ q ≤ G.1 ∧ Fr isPm s t2 ∧ ((v25 = -9 ∧ ∃ lf', u24 = lN lf' ∧ lf = lf' + pS G (its G u L st0 fr) (y - 10) q ∧ SKM G u L st0 t2) ∨ ∃ p lf', v25 = nI p ∧ u24 = lN lf' ∧ CH G u L (y - 10) st0 fr lf p lf' ∧ SKM G u L (rh G p ++ st0) t2)) (fun _ _ v26 _ => G.1 - v26.toNatClampNeg) ?_ n _ _ _ t ⟨0, rfl, Nat.zero_le _, hf, Or.inl ⟨rfl, lf, rfl, pS0, hS.2.2⟩⟩ (by omega)
        rintro rec3 u24 v25 v26 t2 ⟨q, rfl, hq, hf2, hcase⟩ ih3
        have hMt2 : MG G (t2.1 149) := hM.fr hf2 (by unfold isPm; omega)
        rw [many_e hMt2, bd_ok]
        refine wp_jn1 (fun t' => t' = t2 ∧ ∃ p lf', v25 = nI p ∧ u24 = lN lf' ∧ CH G u L (y - 10) st0 fr lf p lf' ∧ SKM G u L (rh G p ++ st0) t2) ?_ ?_
        · rintro t' ⟨rfl, p, lf', rfl, rfl, hCH, hS2⟩
          have hst := hCF.step w hy10 hCH
          have hlenp : (rh G p ++ st0).length = st0.length + G.2.2.1 p := by
            rw [List.length_append]
            show (rhs G p (G.2.2.1 p) 0).length + _ = _
            rw [rhs_len]
            omega
          rw [ieq (by omega) (by omega)]
          by_cases hcc : c = i
          · rw [if_pos hcc]
            have hst1 := hst.1
            subst hcc
            refine wp_some ⟨hf2, Or.inl ⟨c + 1 + fr, rh G p ++ st0, fr, lf', fun k => if k = c then p else ps k, hst1, ?_⟩⟩
            dsimp only
            rw [if_pos rfl]
          · rw [if_neg hcc, lt_def, size_e hMt2 w hCH.1, bd_ok, lt_def, nI_add, nI_add]
            refine ih _ _ _ _ _ ⟨c + 1, fr, lf', rh G p ++ st0, _, rfl, rfl, by rw [hlenp], rfl, by omega, hf2, hst, hS2⟩ ?_
            simp (disch := omega) only [cl_ok]
            omega
        · intro j32 hj32
          rw [ile (by omega) (by omega)]
          rcases hcase with ⟨rfl, lf', rfl, elf, hS2⟩ | ⟨p, lf', rfl, rfl, hCH, hS2⟩
          · have hql : q < G.1 := by
              rcases Nat.lt_or_ge q G.1 with h | h
              · exact h
              · have : q = G.1 := by omega
                rw [this] at elf
                omega
            have h5 := (w.2.1 q hql).2
            have hl6 := (w.2.1 q hql).1
            rw [if_neg (by omega), if_pos rfl, left_e hMt2 w hql, bd_ok]
            refine wp_jn3 (fun u39 v40 t' => Fr isPm s t' ∧ ((v40 = -9 ∧ ∃ lf', u39 = lN lf' ∧ lf = lf' + pS G (its G u L st0 fr) (y - 10) (q + 1) ∧ SKM G u L st0 t') ∨ ∃ p lf', v40 = nI p ∧ u39 = lN lf' ∧ CH G u L (y - 10) st0 fr lf p lf' ∧ SKM G u L (rh G p ++ st0) t')) ?_ ?_
            · rintro u39 v40 t' ⟨hf3, hc3⟩
              rw [lt_def, nI_add]
              refine ih3 _ _ _ _ ⟨q + 1, rfl, by omega, hf3, hc3⟩ ?_
              simp (disch := omega) only [cl_ok]
              omega
            · intro j42 hj42
              rw [ieq (by omega) (by omega)]
              have eS : pS G (its G u L st0 fr) (y - 10) (q + 1) = pS G (its G u L st0 fr) (y - 10) q + if G.2.1 q = y - 10 then its G u L st0 fr q else 0 := rfl
              by_cases hx : G.2.1 q = y - 10
              · rw [if_pos hx] at eS
                rw [if_pos hx]
                refine wp_call (putsSide_m hMt2 w (h.fr hf2) hS2 hql (by omega) (show 20 ≤ n by omega)) (fun _ t3 ⟨hf3, hS3⟩ => ?_)
                have hMt3 : MG G (t3.1 149) := hM.fr (hf2.tr hf3) (by unfold isPm; omega)
                have hlenp : (rh G q ++ st0).length = st0.length + G.2.2.1 q := by
                  rw [List.length_append]
                  show (rhs G q (G.2.2.1 q) 0).length + _ = _
                  rw [rhs_len]
                  omega
                have htop : t3.2.1 173 (9 * (st0.length + G.2.2.1 q) + fr) = lN (its G u L st0 fr q) := by
                  have := STK.top _ hS3 fr (Nat.zero_le _) hfr
                  rw [hlenp] at this
                  exact this
                have hle : its G u L st0 fr q ≤ 1000000000 := sat_le _
                rw [size_e hMt3 w hql, bd_ok]
                simp (disch := omega) only [nI_add, nI_mulN, ra_ok, htop, lle_ok, jn_def, lt_def]
                by_cases hc : its G u L st0 fr q ≤ lf'
                · rw [if_pos hc, if_pos hc, lN_subN hc]
                  exact hj42 _ _ _ ⟨hf2.tr hf3, Or.inl ⟨rfl, lf' - its G u L st0 fr q, rfl, by omega, STK.app _ hS3⟩⟩
                · rw [if_neg hc, if_neg hc, lN0, lN_subN (Nat.zero_le _), Nat.sub_zero]
                  exact hj42 _ _ _ ⟨hf2.tr hf3, Or.inr ⟨q, lf', rfl, rfl, ⟨hql, hx, by omega, elf⟩, hS3⟩⟩
              · rw [if_neg hx] at eS
                rw [if_neg hx]
                exact hj42 _ _ _ ⟨hf2, Or.inl ⟨rfl, lf', rfl, by omega, hS2⟩⟩
          · have hp16 := hCH.1
            have hgo := hj32 t2 ⟨rfl, p, lf', rfl, rfl, hCH, hS2⟩
            by_cases hqg : G.1 ≤ q
            · rw [if_pos hqg]
              exact hgo
            · rw [if_neg hqg, if_neg (neg_lt (by omega))]
              exact hgo
/-! ===== BOTH: steps ===== -/
def isSt (q : Nat) : Prop := (24 ≤ q ∧ q ≤ 28) ∨ q = 139 ∨ q = 141 ∨ q = 142
def isL8 (q : Nat) : Prop := 24 ≤ q ∧ q ≤ 28
theorem stepAt_c {G : Gr} {L : Nat} {tx : Nat → Nat} {s : PH} (hX : XG G s) (hK : GK G) (hE : EN s) (hD : DI G L tx s) (h5 : s.1 24 5 = nI 1) {j i n : Nat} (hj : j < 2) (hi : i < 200) (hn : 300 ≤ n) : wp (fX2_stepAt n (s.2.2 0 8) (nI j) (nI i) s) (fun r t => Fr isL8 s t ∧ DI G L tx t ∧ ((NT G (uT tx) (G.2.1 0) 0 L ≤ j ∧ r = -9) ∨ (j < NT G (uT tx) (G.2.1 0) 0 L ∧ ∃ c ps, LE2 G (uT tx) L j c ps ∧ r = if i < c then nI (ps i) else -9))) := by
  have w := hK.1
  rcases hD with ⟨d1, _⟩ | ⟨_, dA, dI, d7, d8, dC, d6⟩
  · rw [h5] at d1
    exact absurd d1 (by decide +kernel)
  have hL := dI.1
  have hnt := NT_le G (uT tx) (G.2.1 0) 0 L
  obtain ⟨T, hT⟩ : ∃ T, T = NT G (uT tx) (G.2.1 0) 0 L := ⟨_, rfl⟩
  rw [← hT] at hnt d8
  have hKL : KL G (uT tx) L s := ⟨d7, dC, hE, hL, fun i hi => by have := dI.2 i hi; unfold uT; omega⟩
  have li : ∀ q, isLi q → isL8 q := fun q hq => by unfold isLi at hq; unfold isL8; omega
  unfold fX2_stepAt
  refine wp_jn1 (fun t => Fr isL8 s t ∧ DI G L tx t ∧ ∀ k, k < 2 → LSd G (uT tx) L k t) ?_ ?_
  · rintro t ⟨hf, hDt, hLS⟩
    rw [ra_ok _ _ hj (by decide)]
    rcases hLS j hj with ⟨a1, a2⟩ | ⟨a1, c, ps, a2, a3, a4⟩
    · rw [a2, if_pos (yle (by omega) (Nat.zero_le _))]
      exact wp_some ⟨hf, hDt, Or.inl ⟨a1, rfl⟩⟩
    · have hc200 : c ≤ 200 := by obtain ⟨_, _, _, _, _, _, h⟩ := a2; exact h
      rw [a3, ile (by omega) (by omega)]
      by_cases hc : c ≤ i
      · rw [if_pos hc]
        exact wp_some ⟨hf, hDt, Or.inr ⟨a1, c, ps, a2, by rw [if_neg (by omega)]⟩⟩
      · rw [if_neg hc]
        simp (disch := omega) only [nI_mulN, nI_add, ra_ok]
        rw [Nat.mul_comm j 200, a4 i (by omega)]
        exact wp_some ⟨hf, hDt, Or.inr ⟨a1, c, ps, a2, by rw [if_pos (by omega)]⟩⟩
  · intro j2 hj2
    rcases d6 with d6 | ⟨d6, dLS⟩
    · rw [d6, if_pos n0_0]
      refine wp_jn2 (fun v5 t => Fr isL8 s t ∧ (∀ k, k ≠ 9 → k ≠ 10 → t.1 24 k = s.1 24 k) ∧ ((T ≤ 0 ∧ v5 = nI 0) ∨ (0 < T ∧ ∃ c ps, LE2 G (uT tx) L 0 c ps ∧ v5 = nI c ∧ c ≤ 200 ∧ ∀ i, i < c → t.1 27 (200 * 0 + i) = nI (ps i)))) ?_ ?_
      · rintro v5 t ⟨hf, k24, hv5⟩
        rw [wa_ok _ (by decide) (by decide), cl_ok (by decide), lt_def]
        obtain ⟨t1, ht1⟩ : ∃ t1, t1 = si t 28 0 v5 := ⟨_, rfl⟩
        rw [← ht1]
        have f1 : Fr isL8 s t1 := by rw [ht1]; exact hf.tr (Fr.si (by unfold isL8; omega))
        have e24 : t1.1 24 = t.1 24 := by rw [ht1, si_r _ _ _ _ (by decide)]
        have e27 : t1.1 27 = t.1 27 := by rw [ht1, si_r _ _ _ _ (by decide)]
        have e28 : t1.1 28 0 = v5 := by rw [ht1]; simp [si_1]
        have e8 : t1.1 24 8 = nI T := by rw [e24, k24 8 (by decide) (by decide), d8]
        refine wp_jn2 (fun v9 t2 => Fr isL8 s t2 ∧ (∀ k, k ≠ 9 → k ≠ 10 → t2.1 24 k = s.1 24 k) ∧ (∀ k, k < 200 → t2.1 27 k = t.1 27 k) ∧ t2.1 28 0 = v5 ∧ ((T ≤ 1 ∧ v9 = nI 0) ∨ (1 < T ∧ ∃ c ps, LE2 G (uT tx) L 1 c ps ∧ v9 = nI c ∧ c ≤ 200 ∧ ∀ i, i < c → t2.1 27 (200 * 1 + i) = nI (ps i)))) ?_ ?_
        · rintro v9 t2 ⟨hf2, kk2, h27, h28, hv9⟩
          rw [wa_ok _ (by decide) (by decide), cl_ok (by decide), lt_def, lt_def]
          obtain ⟨t3, ht3⟩ : ∃ t3, t3 = si (si t2 28 1 v9) 24 6 (nI 1) := ⟨_, rfl⟩
          rw [← ht3]
          have f3 : Fr isL8 s t3 := by rw [ht3]; exact (hf2.tr (Fr.si (by unfold isL8; omega))).tr (Fr.si (by unfold isL8; omega))
          have e3 : ∀ k, k ≠ 9 → k ≠ 10 → k ≠ 6 → t3.1 24 k = s.1 24 k := by
            intro k a1 a2 a3
            rw [ht3]
            simp [si_1, a3]
            exact kk2 k a1 a2
          have e6 : t3.1 24 6 = nI 1 := by rw [ht3]; simp [si_1]
          have e27' : t3.1 27 = t2.1 27 := by rw [ht3, si_r _ _ _ _ (by decide), si_r _ _ _ _ (by decide)]
          have e280 : t3.1 28 0 = v5 := by rw [ht3]; simp [si_1, h28]
          have e281 : t3.1 28 1 = v9 := by rw [ht3]; simp [si_1]
          have eC : CNT G L (uT tx) t3 := by
            unfold CNT
            rw [(f3 141 (by unfold isL8; omega)).1, (f3 139 (by unfold isL8; omega)).1]
            exact dC
          have hLS : ∀ k, k < 2 → LSd G (uT tx) L k t3 := by
            intro k hk
            have : k = 0 ∨ k = 1 := by omega
            rcases this with rfl | rfl
            · unfold LSd
              rw [e280, e27', ← hT]
              rcases hv5 with ⟨a1, a2⟩ | ⟨a1, c, ps, a2, a3, hc200, a4⟩
              · exact Or.inl ⟨a1, a2⟩
              · refine Or.inr ⟨a1, c, ps, a2, a3, fun i hi => ?_⟩
                rw [h27 _ (by omega)]
                exact a4 i hi
            · unfold LSd
              rw [e281, e27', ← hT]
              rcases hv9 with ⟨a1, a2⟩ | ⟨a1, c, ps, a2, a3, hc200, a4⟩
              · exact Or.inl ⟨a1, a2⟩
              · exact Or.inr ⟨a1, c, ps, a2, a3, a4⟩
          exact hj2 t3 ⟨f3, Or.inr ⟨by rw [e3 5 (by decide) (by decide) (by decide)]; exact h5, dA, dI, by rw [e3 7 (by decide) (by decide) (by decide)]; exact d7, by rw [e3 8 (by decide) (by decide) (by decide), d8, hT], eC, Or.inr ⟨e6, hLS⟩⟩, hLS⟩
        · intro j11 hj11
          rw [e8, ile (by omega) (by decide)]
          by_cases hT1 : T ≤ 1
          · rw [if_pos hT1]
            exact hj11 _ _ ⟨f1, fun k a1 a2 => by rw [e24]; exact k24 k a1 a2, fun k _ => by rw [e27], e28, Or.inl ⟨hT1, rfl⟩⟩
          · rw [if_neg hT1]
            have hG1 := hX.2.1.fr f1 (fun k hk => by unfold isL8 gId; omega)
            have hK1 : KL G (uT tx) L t1 := hKL.fr f1 (by unfold isL8; omega) (by unfold isL8; omega) (by unfold isL8; omega) (by rw [e24]; exact k24 7 (by decide) (by decide))
            refine wp_call (list_c hG1 hX.1 w dA hK1 (j := 1) (by decide) (by omega) hn) (fun r t2 ⟨g1, g2, ⟨c, ps, g3, g4, g5, g6⟩, g7⟩ => ?_)
            refine hj11 _ _ ⟨f1.tr (g1.wk li), fun k a1 a2 => by rw [g2 k a1 a2, e24]; exact k24 k a1 a2, fun k hk => by rw [g7 k (Or.inl (by omega)), e27], by rw [(g1 28 (by unfold isLi; omega)).1]; exact e28, Or.inr ⟨by omega, c, ps, g3, g4, g5, g6⟩⟩
      · intro j7 hj7
        rw [d8, ilez (by omega)]
        by_cases hT0 : T ≤ 0
        · rw [if_pos hT0]
          exact hj7 _ _ ⟨Fr.rf, fun _ _ _ => rfl, Or.inl ⟨hT0, rfl⟩⟩
        · rw [if_neg hT0]
          refine wp_call (list_c hX.2.1 hX.1 w dA hKL (j := 0) (by decide) (by omega) hn) (fun r t2 ⟨g1, g2, ⟨c, ps, g3, g4, g5, g6⟩, g7⟩ => ?_)
          exact hj7 _ _ ⟨g1.wk li, g2, Or.inr ⟨by omega, c, ps, g3, g4, g5, g6⟩⟩
    · rw [d6, if_neg n1_0]
      exact hj2 s ⟨Fr.rf, Or.inr ⟨h5, dA, dI, d7, by rw [d8, hT], dC, Or.inr ⟨d6, dLS⟩⟩, dLS⟩
def isSm (q : Nat) : Prop := isSt q ∨ q = 148 ∨ q = 166 ∨ (168 ≤ q ∧ q ≤ 173)
theorem EN.fr {P : Nat → Prop} {s t : PH} (h : EN s) (hf : Fr P s t) (h1 : ¬ P 140) : EN t := by
  unfold EN
  rw [(hf 140 h1).1]
  exact h
theorem deriv_b {G : Gr} {L : Nat} {tx : Nat → Nat} {s : PH} (hX : XG G s) (hK : GK G) (hM : MLd G s) (hT : TX L tx s) (hE : EN s) (hD : DI G L tx s) {n : Nat} (hn : 500 ≤ n) : ∃ r s1 s2, fX11_derivations n s = some (r, s1) ∧ fX12_derivations n s1 = some (r, s2) ∧ Fr isSm s s2 ∧ (∀ k, k ≠ 24 → s2.1 148 k = s.1 148 k) ∧ DI G L tx s2 := by
  obtain ⟨r, s1, e1, f1, d1, hr, _⟩ := deriv_c hX hK hT hE hD (show 200 ≤ n by omega)
  have hM1 := hM.fr f1 (fun q hq => by unfold isTt; omega)
  have hT1 : TX L tx s1 := hT.fr f1 (by unfold isTt; omega) (by unfold isTt; omega) (by unfold isTt; omega) (by rw [(f1 148 (by unfold isTt; omega)).1])
  obtain ⟨r2, s2, e2, f2, k2, hr2, _⟩ := deriv_m hK hM1 hT1 hn
  have er : r2 = r := hr2.uniq hr
  subst er
  refine ⟨r2, s1, s2, e1, e2, (f1.wk (fun q hq => by unfold isTt at hq; unfold isSm isSt; omega)).tr (f2.wk (fun q hq => by unfold isRd at hq; unfold isSm isSt; omega)), fun k hk => ?_, d1.fr f2 (by unfold isRd; omega) (by unfold isRd; omega) (by unfold isRd; omega) (by unfold isRd; omega) (by unfold isRd; omega)⟩
  rw [k2 k hk, (f1 148 (by unfold isTt; omega)).1]
theorem DR.neg {G : Gr} {L : Nat} {tx : Nat → Nat} {r : Int32} (hL : L ≤ 100) (h : DR G L tx r) : (0 ≤ r → ¬ RR G true ∧ INP L tx ∧ r = nI (NT G (uT tx) (G.2.1 0) 0 L)) := by
  intro h0
  rcases h with ⟨_, rfl⟩ | ⟨_, v, hv, hv9, rfl⟩ | h
  · exact absurd h0 (by decide +kernel)
  · exfalso
    rcases hv with ⟨rfl, _⟩ | ⟨k, rfl, hk, _⟩
    · exact hv9 rfl
    · have : ∀ k, k < 100 → ¬ (0 : Int32) ≤ -100 - nI k := by decide +kernel
      exact this k (by omega) h0
  · exact h
theorem step_b {G : Gr} {L : Nat} {tx : Nat → Nat} {s : PH} (hX : XG G s) (hK : GK G) (hM : MLd G s) (hT : TX L tx s) (hE : EN s) (hD : DI G L tx s) {n : Nat} (hn : 500 ≤ n) (a b : Int32) : ∃ r s1 s2, fX11_step n a b s = some (r, s1) ∧ fX12_step n a b s1 = some (r, s2) ∧ Fr isSm s s2 ∧ (∀ k, k ≠ 24 → s2.1 148 k = s.1 148 k) ∧ DI G L tx s2 := by
  have w := hK.1
  unfold fX11_step fX12_step
  have bad : ∀ (x : Option (Int32 × PH)), x = some (-1, s) → (∃ r s1 s2, x = some (r, s1) ∧ (some ((-1 : Int32), s1) : Option (Int32 × PH)) = some (r, s2) ∧ Fr isSm s s2 ∧ (∀ k, k ≠ 24 → s2.1 148 k = s.1 148 k) ∧ DI G L tx s2) := fun x hx => ⟨-1, s, s, hx, rfl, Fr.rf, fun _ _ => rfl, hD⟩
  rcases rge a 1 (by decide) with ⟨j, hj, rfl⟩ | ha
  · rw [if_neg (nlt0 (by omega)), if_neg (by rw [lt_ok (by decide) (by omega)]; omega)]
    rcases rge b 199 (by decide) with ⟨i, hi, rfl⟩ | hb
    · rw [if_neg (nlt0 (by omega)), if_pos (by rw [lt_ok (by omega) (by decide)]; omega)]
      obtain ⟨r, s1, e1, f1, d1, hr, hc1⟩ := deriv_c hX hK hT hE hD (show 200 ≤ n by omega)
      have ft : ∀ q, isTt q → isSm q := fun q hq => by unfold isTt at hq; unfold isSm isSt; omega
      have fd : ∀ q, isRd q → isSm q := fun q hq => by unfold isRd at hq; unfold isSm; omega
      have fp : ∀ q, isPm q → isSm q := fun q hq => by unfold isPm at hq; unfold isSm; omega
      have f8 : ∀ q, isL8 q → isSm q := fun q hq => by unfold isL8 at hq; unfold isSm isSt; omega
      rw [e1, bd_ok, lt_def]
      by_cases h0 : 0 ≤ r
      · obtain ⟨hR, hI, er⟩ := hr.neg hT.1 h0
        rw [if_pos h0, lt_def]
        have hX1 := hX.fr w f1 (fun q hq => by unfold isTt; omega)
        have hE1 := hE.fr f1 (by unfold isTt; omega)
        obtain ⟨r2, s2, e2, f2, d2, hr2⟩ := stepAt_c hX1 hK hE1 d1 (hc1 hR hI) (j := j) (i := i) (n := n) (by omega) (by omega) (by omega)
        rw [e2, bd_ok]
        have f12 : Fr isSm s s2 := (f1.wk ft).tr (f2.wk f8)
        have e148 : s2.1 148 = s.1 148 := by rw [(f2 148 (by unfold isL8; omega)).1, (f1 148 (by unfold isTt; omega)).1]
        have hM2 := (hM.fr f1 (fun q hq => by unfold isTt; omega)).fr f2 (fun q hq => by unfold isL8; omega)
        have hT1 : TX L tx s1 := hT.fr f1 (by unfold isTt; omega) (by unfold isTt; omega) (by unfold isTt; omega) (by rw [(f1 148 (by unfold isTt; omega)).1])
        have hT2 : TX L tx s2 := hT1.fr f2 (by unfold isL8; omega) (by unfold isL8; omega) (by unfold isL8; omega) (by rw [(f2 148 (by unfold isL8; omega)).1])
        obtain ⟨r3, s3, e3, f3, k3, hr3, hm3⟩ := deriv_m hK hM2 hT2 hn
        have e33 : r3 = r := hr3.uniq hr
        have d3 : DI G L tx s3 := d2.fr f3 (by unfold isRd; omega) (by unfold isRd; omega) (by unfold isRd; omega) (by unfold isRd; omega) (by unfold isRd; omega)
        have k33 : ∀ k, k ≠ 24 → s3.1 148 k = s.1 148 k := fun k hk => by rw [k3 k hk, e148]
        obtain ⟨m24, mU, mW⟩ := hm3 hR hI
        have hnt := NT_le G (uT tx) (G.2.1 0) 0 L
        rw [e33, er] at e3
        refine ⟨r2, s2, ?_⟩
        rw [in_t hj (by decide), bd_ok, if_neg n1_0, in_t hi (by decide), bd_ok, if_neg n1_0, e3, bd_ok, lt_def, if_pos (by rw [er] at h0; exact h0), ile (by omega) (by omega)]
        rcases hr2 with ⟨a1, a2⟩ | ⟨a1, c, ps, a2, a3⟩
        · rw [if_pos a1, a2]
          exact ⟨s3, rfl, rfl, f12.tr (f3.wk fd), k33, d3⟩
        · rw [if_neg (by omega), nIl_ok (by omega)]
          have hM3 := hM2.fr f3 (fun q hq => by unfold isRd; omega)
          obtain ⟨r4, s4, e4, f4, hSP⟩ := stepOf_m (n := n) hM3.1 w (RR_acy hR) (u := uT tx) (L := L) ⟨m24, mU, mW, hI.1, fun i hi => by have := hI.2 i hi; unfold uT; omega⟩ (j := j) (i := i) (by omega) (by omega) a1 (by omega)
          rw [e4, bd_ok]
          have e44 : r4 = r2 := by rw [a3]; exact hSP.of a2 (by omega)
          rw [e44]
          exact ⟨s4, rfl, rfl, (f12.tr (f3.wk fd)).tr (f4.wk fp), fun k hk => by rw [(f4 148 (by unfold isPm; omega)).1]; exact k33 k hk, d3.fr f4 (by unfold isPm; omega) (by unfold isPm; omega) (by unfold isPm; omega) (by unfold isPm; omega) (by unfold isPm; omega)⟩
      · rw [if_neg h0]
        have hM1 := hM.fr f1 (fun q hq => by unfold isTt; omega)
        have hT1 : TX L tx s1 := hT.fr f1 (by unfold isTt; omega) (by unfold isTt; omega) (by unfold isTt; omega) (by rw [(f1 148 (by unfold isTt; omega)).1])
        obtain ⟨r3, s3, e3, f3, k3, hr3, _⟩ := deriv_m hK hM1 hT1 hn
        have e33 : r3 = r := hr3.uniq hr
        rw [e33] at e3
        refine ⟨r, s1, s3, rfl, ?_, (f1.wk ft).tr (f3.wk fd), fun k hk => by rw [k3 k hk, (f1 148 (by unfold isTt; omega)).1], d1.fr f3 (by unfold isRd; omega) (by unfold isRd; omega) (by unfold isRd; omega) (by unfold isRd; omega) (by unfold isRd; omega)⟩
        rw [in_t hj (by decide), bd_ok, if_neg n1_0, in_t hi (by decide), bd_ok, if_neg n1_0, e3, bd_ok, lt_def, if_neg h0]
    · have e : ∀ s1 : PH, (bd (fX12_in (nI j) (nI 0) (nI 1) s1) fun (r2 : Int32) (s1 : PH) => (if r2 = 0 then (some ((-1 : Int32), s1)) else (bd (fX12_in b (nI 0) (nI 199) s1) fun (r4 : Int32) (s3 : PH) => (if r4 = 0 then (some ((-1 : Int32), s3)) else (bd (fX12_derivations n s3) fun (r6 : Int32) (s5 : PH) => (lt r6 fun (v7 : Int32) => (if 0 ≤ v7 then (if v7 ≤ nI j then (some ((-9 : Int32), s5)) else (bd (fX12_stepOf n (nI j).toInt64 b s5) fun (r9 : Int32) (s8 : PH) => (some (r9, s8)))) else (some (v7, s5))))))))) = some (-1, s1) := by
        intro s1
        rw [in_t hj (by decide), bd_ok, if_neg n1_0, in_f hb, bd_ok, if_pos n0_0]
      simp only [e]
      rcases rge_cases hb with h3 | ⟨h3, h4⟩
      · rw [if_pos h3]; exact bad _ rfl
      · rw [if_neg (Int32.not_lt.mpr h3), if_neg]
        · exact bad _ rfl
        · intro h5
          exact absurd (gt_ge (by decide) (by decide) h4 (show 200 ≤ 199 + 1 by decide)) (Int32.not_le.mpr h5)
  · have e : ∀ s1 : PH, (bd (fX12_in a (nI 0) (nI 1) s1) fun (r2 : Int32) (s1 : PH) => (if r2 = 0 then (some ((-1 : Int32), s1)) else (bd (fX12_in b (nI 0) (nI 199) s1) fun (r4 : Int32) (s3 : PH) => (if r4 = 0 then (some ((-1 : Int32), s3)) else (bd (fX12_derivations n s3) fun (r6 : Int32) (s5 : PH) => (lt r6 fun (v7 : Int32) => (if 0 ≤ v7 then (if v7 ≤ a then (some ((-9 : Int32), s5)) else (bd (fX12_stepOf n a.toInt64 b s5) fun (r9 : Int32) (s8 : PH) => (some (r9, s8)))) else (some (v7, s5))))))))) = some (-1, s1) := by
      intro s1
      rw [in_f ha, bd_ok, if_pos n0_0]
    simp only [e]
    rcases rge_cases ha with h3 | ⟨h3, h4⟩
    · rw [if_pos h3]; exact bad _ rfl
    · rw [if_neg (Int32.not_lt.mpr h3), if_pos h4]; exact bad _ rfl
