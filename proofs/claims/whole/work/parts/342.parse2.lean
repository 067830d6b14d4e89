/-! ===== BOTH: parse ===== -/
def isPq (q : Nat) : Prop := q = 148 ∨ q = 152 ∨ q = 166 ∨ q = 167
def Dof (f : Nat → Int32) : Nat → Nat := fun x => (f x).toNatClampNeg
theorem DEP.dof {G : Gr} {s : PH} (hX : XG G s) (h : dpF G (s.1 19) 6 0 (nI 0) ≠ -9) : DEP (Dof (s.1 19)) s := by
  obtain ⟨D, hD⟩ := DEP.of hX h
  intro x hx
  obtain ⟨h1, h2⟩ := hD x hx
  unfold Dof
  rw [h2, cl_ok (by omega)]
  exact ⟨h1, rfl⟩
/-- what parse() answers, and what it chose -/
def PAR (G : Gr) (L : Nat) (tx : Nat → Nat) (f : Nat → Int32) (r : Int32) (cs : List Nat) : Prop := ((dpF G f 6 0 (nI 0) = -9 ∨ RR G false) ∧ r = -2 ∧ cs = []) ∨ (¬ (dpF G f 6 0 (nI 0) = -9 ∨ RR G false) ∧ ∃ v, IFS L tx v ∧ v ≠ -9 ∧ r = -100 - v ∧ cs = []) ∨ (¬ (dpF G f 6 0 (nI 0) = -9 ∨ RR G false) ∧ INP L tx ∧ ∃ k m, itr (nxt G (uT tx) L (Dof f)) ([10 + G.2.1 0], 0, []) k = some m ∧ nxt G (uT tx) L (Dof f) m = none ∧ RES L m r ∧ cs = m.2.2)
theorem PAR.uniq {G : Gr} {L : Nat} {tx : Nat → Nat} {f : Nat → Int32} {r r' : Int32} {cs cs' : List Nat} (h : PAR G L tx f r cs) (h' : PAR G L tx f r' cs') : r = r' ∧ cs = cs' := by
  rcases h with ⟨a, rfl, rfl⟩ | ⟨a, v, b, c, rfl, rfl⟩ | ⟨a, b, k, m, c, d, e, rfl⟩
  · rcases h' with ⟨_, rfl, rfl⟩ | ⟨a', _⟩ | ⟨a', _⟩
    · exact ⟨rfl, rfl⟩
    · exact absurd a a'
    · exact absurd a a'
  · rcases h' with ⟨a', _⟩ | ⟨_, v', b', c', rfl, rfl⟩ | ⟨_, b', _⟩
    · exact absurd a' a
    · rw [b.uniq b']; exact ⟨rfl, rfl⟩
    · exact absurd (inp9 b b') c
  · rcases h' with ⟨a', _⟩ | ⟨_, v', b', c', _⟩ | ⟨_, b', k', m', c', d', e', rfl⟩
    · exact absurd a' a
    · exact absurd (inp9 b' b) c'
    · have em := itr_uniq c d c' d'
      subst em
      exact ⟨e.uniq e', rfl⟩
theorem parse_c {G : Gr} {L : Nat} {tx : Nat → Nat} {s : PH} (hX : XG G s) (hK : GK G) (hT : TX L tx s) {n : Nat} (hn : 300 ≤ n) : ∃ r s1, fX11_parse n s = some (r, s1) ∧ Fr isPr s s1 ∧ ∃ cs, PAR G L tx (s.1 19) r cs ∧ cs.length ≤ 60 ∧ s1.1 21 3 = nI cs.length ∧ SK1 (s1.1 23) cs := by
  have w := hK.1
  have f1 : Fr isPr s (si s 21 3 (nI 0)) := Fr.si (Or.inl rfl)
  obtain ⟨s1, hs1⟩ : ∃ s1, s1 = si s 21 3 (nI 0) := ⟨_, rfl⟩
  have e0 : fX6_forget s = some ((), s1) := by rw [hs1]; rfl
  rw [← hs1] at f1
  have hX1 := hX.fr w f1 (fun q hq => by unfold isPr; omega)
  have hT1 : TX L tx s1 := hT.fr f1 (by unfold isPr; omega) (by unfold isPr; omega) (by unfold isPr; omega) (by rw [(f1 148 (by unfold isPr; omega)).1])
  have e19 : s1.1 19 = s.1 19 := (f1 19 (by unfold isPr; omega)).1
  have z3 : s1.1 21 3 = nI ([] : List Nat).length := by rw [hs1]; simp [si_1]
  have hdc := deepest_c hX1 hn (nI 0)
  rw [if_pos n0_0, e19] at hdc
  obtain ⟨_, _, ⟨h8, h9, h77, hLt, h78, h79, hO⟩, _⟩ := id hX1
  have hr := reach_c (k := 8) (c := false) h77 h78
  have e1 : fX9_recursesReachably s1 = some (if (s1.1 7 8 &&& s1.1 7 7) = 0 then nI 0 else nI 1, s1) := by
    unfold fX9_recursesReachably
    rw [ite_some]
  obtain ⟨v, ev, hv⟩ := inputFault_c hT1 (show 200 ≤ n by omega)
  unfold fX11_parse
  rw [e0, bd_ok, hdc, bd_ok]
  by_cases hd : dpF G (s.1 19) 6 0 (nI 0) = -9
  · rw [if_pos hd]
    exact ⟨_, _, rfl, f1, [], Or.inl ⟨Or.inl hd, rfl, rfl⟩, by decide, z3, trivial⟩
  · rw [if_neg hd, e1, bd_ok]
    by_cases h0 : (if (s1.1 7 8 &&& s1.1 7 7) = 0 then nI 0 else nI 1) = 0
    · have hno : ¬ (dpF G (s.1 19) 6 0 (nI 0) = -9 ∨ RR G false) := fun h => h.elim hd (hr.eq h0)
      rw [if_pos h0, ev, bd_ok, lt_def]
      by_cases h9' : v = -9
      · have hI := hv.none hT.1 h9'
        have hD : DEP (Dof (s.1 19)) s1 := by
          have := DEP.dof hX1 (by rw [e19]; exact hd)
          rw [e19] at this
          exact this
        rw [if_pos h9', lt_def]
        obtain ⟨r, t, e, hf, k, m, a1, a2, a3, a4, a5, a6⟩ := run_c hX1 w hT1 hI hD (show 100 ≤ n by omega)
        rw [e, bd_ok]
        exact ⟨_, _, rfl, f1.tr hf, m.2.2, Or.inr (Or.inr ⟨hno, hI, k, m, a1, a2, a3, rfl⟩), a4, a5, a6⟩
      · rw [if_neg h9']
        exact ⟨_, _, rfl, f1, [], Or.inr (Or.inl ⟨hno, v, hv, h9', rfl, rfl⟩), by decide, z3, trivial⟩
    · rw [if_neg h0]
      exact ⟨_, _, rfl, f1, [], Or.inl ⟨Or.inr (hr.ne h0), rfl, rfl⟩, by decide, z3, trivial⟩
theorem parse_m {G : Gr} {L : Nat} {tx : Nat → Nat} {s : PH} (hX : XG G s) (hK : GK G) (hM : MLd G s) (hT : TX L tx s) {n : Nat} (hn : 300 ≤ n) : wp (fX12_parse n s) (fun r t => Fr isPq s t ∧ (∀ k, k ≠ 7 → k ≠ 24 → t.1 148 k = s.1 148 k) ∧ ∃ cs, PAR G L tx (s.1 19) r cs ∧ cs.length ≤ 60 ∧ t.1 148 7 = nI cs.length ∧ SK1 (t.1 152) cs) := by
  have w := hK.1
  have h6 := lft6 w w.1.1
  have f1 : Fr isPq s (si s 148 7 (nI 0)) := Fr.si (Or.inl rfl)
  unfold fX12_parse
  rw [lt_def]
  obtain ⟨s1, hs1⟩ : ∃ s1, s1 = si s 148 7 (nI 0) := ⟨_, rfl⟩
  rw [← hs1] at f1 ⊢
  have hX1 := hX.fr w f1 (fun q hq => by unfold isPq; omega)
  have hM1 := hM.fr f1 (fun q hq => by unfold isPq; omega)
  have k1 : ∀ k, k ≠ 7 → s1.1 148 k = s.1 148 k := by intro k hk; rw [hs1]; simp [si_1, hk]
  have hT1 : TX L tx s1 := hT.fr f1 (by unfold isPq; omega) (by unfold isPq; omega) (by unfold isPq; omega) (k1 4 (by decide))
  have e19 : s1.1 19 = s.1 19 := (f1 19 (by unfold isPq; omega)).1
  have z7 : s1.1 148 7 = nI ([] : List Nat).length := by rw [hs1]; simp [si_1]
  have hdc := deepest_m hX1 hK hM1 hn (nI 0)
  rw [if_pos n0_0, e19] at hdc
  obtain ⟨r0, e0, hr⟩ := someReached_m (q := 156) (c := false) (n := n) hM1.2.2.2.1 hM1.2.2.2.2.1 (by omega)
  rw [hdc, bd_ok]
  by_cases hd : dpF G (s.1 19) 6 0 (nI 0) = -9
  · rw [if_pos hd]
    exact wp_some ⟨f1, fun k a _ => k1 k a, [], Or.inl ⟨Or.inl hd, rfl, rfl⟩, by decide, z7, trivial⟩
  · rw [if_neg hd, e0, bd_ok]
    by_cases h0 : r0 = 0
    · have hno : ¬ (dpF G (s.1 19) 6 0 (nI 0) = -9 ∨ RR G false) := fun h => h.elim hd (hr.eq h0)
      rw [if_pos h0]
      refine wp_call (laysInput_m hT1 (show 200 ≤ n by omega)) (fun v t2 ⟨hf2, h148, hv, hu⟩ => ?_)
      have f2 : Fr isPq s t2 := f1.tr (hf2.wk (fun q hq => by unfold isI2 at hq; unfold isPq; omega))
      have k2 : ∀ k, k ≠ 7 → k ≠ 24 → t2.1 148 k = s.1 148 k := fun k a b => by rw [h148 k b]; exact k1 k a
      have z72 : t2.1 148 7 = nI ([] : List Nat).length := by rw [h148 7 (by decide)]; exact z7
      rw [lt_def]
      by_cases h9 : v = -9
      · have hI := hv.none hT.1 h9
        have hL := hI.1
        obtain ⟨h24, hut⟩ := hu h9
        have hD : DEP (Dof (s.1 19)) s := DEP.dof hX hd
        have hM2 := hM.fr f2 (fun q hq => by unfold isPq; omega)
        have hu5 : ∀ i, i < L → uT tx i < 5 := fun i hi => by have := hI.2 i hi; unfold uT; omega
        rw [if_pos h9, lt_def, lt_def, start_e hM2.1 w, bd_ok, wa_ok _ (by decide) (by decide), cl_ok (by decide), lt_def, nI_add]
        obtain ⟨s3, hs3⟩ : ∃ s3, s3 = si t2 167 0 (nI (10 + G.2.1 0)) := ⟨_, rfl⟩
        rw [← hs3]
        have f3 : Fr isPq s s3 := by rw [hs3]; exact f2.tr (Fr.si (by unfold isPq; omega))
        have e148 : s3.1 148 = t2.1 148 := by rw [hs3, si_r _ _ _ _ (by decide)]
        have e166 : s3.1 166 = t2.1 166 := by rw [hs3, si_r _ _ _ _ (by decide)]
        refine wp_loo3 (fun v14 v15 t => ∃ k st fr cs, itr (nxt G (uT tx) L (Dof (s.1 19))) ([10 + G.2.1 0], 0, []) k = some (st, fr, cs) ∧ v14 = nI st.length ∧ v15 = nI fr ∧ cs.length ≤ 60 ∧ fr ≤ L ∧ st.length ≤ 1 + 4 * cs.length ∧ S16y st ∧ Fr isPq s t ∧ (∀ k, k ≠ 7 → k ≠ 24 → t.1 148 k = s.1 148 k) ∧ t.1 148 24 = nI L ∧ UT (uT tx) L t ∧ t.1 148 7 = nI cs.length ∧ (∀ b, t.1 148 7 = nI b → b ≤ 60 → 80 - (nI fr).toNatClampNeg - b = 80 - fr - cs.length) ∧ SK1 (t.1 167) st ∧ SK1 (t.1 152) cs) (fun _ v15 t => 80 - v15.toNatClampNeg - (t.1 148 7).toNatClampNeg) ?_ n _ _ s3 ⟨0, [10 + G.2.1 0], 0, [], rfl, rfl, rfl, Nat.zero_le _, Nat.zero_le _, Nat.le_refl _, fun y hy => ?_, f3, fun k a b => by rw [e148]; exact k2 k a b, by rw [e148]; exact h24, fun i hi => by rw [e166]; exact hut i hi, by rw [e148]; exact z72, fun b hb hb60 => ?_, ⟨by rw [hs3]; simp [si_1], trivial⟩, trivial⟩ ?_
        · rintro rec v14 v15 t ⟨k, st, fr, cs, hit, rfl, rfl, hc60, hfr, hlen, h16, hf, k148, t24, hU, t7, _, hS, hC⟩ ih
          have hXt := hX.fr w hf (fun q hq => by unfold isPq; omega)
          have hMt := hM.fr hf (fun q hq => by unfold isPq; omega)
          have hDt : DEP (Dof (s.1 19)) t := fun x hx => by rw [(hf 19 (by unfold isPq; omega)).1]; exact hD x hx
          have stop : nxt G (uT tx) L (Dof (s.1 19)) (st, fr, cs) = none → ∀ r, RES L (st, fr, cs) r → wp (some (r, t)) (fun r t => Fr isPq s t ∧ (∀ k, k ≠ 7 → k ≠ 24 → t.1 148 k = s.1 148 k) ∧ ∃ cs, PAR G L tx (s.1 19) r cs ∧ cs.length ≤ 60 ∧ t.1 148 7 = nI cs.length ∧ SK1 (t.1 152) cs) :=
            fun a1 r a2 => wp_some ⟨hf, k148, cs, Or.inr (Or.inr ⟨hno, hI, k, (st, fr, cs), hit, a1, a2, rfl⟩), hc60, t7, hC⟩
          rw [ilez (by omega)]
          cases st with
          | nil =>
            rw [if_pos (show ([] : List Nat).length ≤ 0 from Nat.le_refl _), t24, ieq (by omega) (by omega), t7]
            by_cases e : fr = L
            · rw [if_pos e]
              exact stop rfl _ (Or.inl ⟨rfl, e, rfl⟩)
            · rw [if_neg e]
              exact stop rfl _ (Or.inr ⟨fun h => e h.2, rfl⟩)
          | cons y st0 =>
            have el : (y :: st0).length = st0.length + 1 := rfl
            rw [el] at hlen ⊢
            have hy := h16 y List.mem_cons_self
            have r167 : t.1 167 st0.length = nI y := hS.1
            have bad : nxt G (uT tx) L (Dof (s.1 19)) (y :: st0, fr, cs) = none → wp (some (-10 - nI fr, t)) (fun r t => Fr isPq s t ∧ (∀ k, k ≠ 7 → k ≠ 24 → t.1 148 k = s.1 148 k) ∧ ∃ cs, PAR G L tx (s.1 19) r cs ∧ cs.length ≤ 60 ∧ t.1 148 7 = nI cs.length ∧ SK1 (t.1 152) cs) :=
              fun h4 => stop h4 _ (Or.inr ⟨fun h => List.cons_ne_nil _ _ h.1, rfl⟩)
            rw [if_neg (by omega), dn_m, dn_s, lt_def, ra_ok _ _ (by omega) (by decide), r167, lt_def]
            refine wp_jn3 (fun v21 v22 t' => ∃ st' fr' cs', nxt G (uT tx) L (Dof (s.1 19)) (y :: st0, fr, cs) = some (st', fr', cs') ∧ v21 = nI st'.length ∧ v22 = nI fr' ∧ fr' + cs'.length = fr + cs.length + 1 ∧ cs'.length ≤ 60 ∧ fr' ≤ L ∧ st'.length ≤ 1 + 4 * cs'.length ∧ S16y st' ∧ Fr isPq s t' ∧ (∀ k, k ≠ 7 → k ≠ 24 → t'.1 148 k = s.1 148 k) ∧ t'.1 148 24 = nI L ∧ UT (uT tx) L t' ∧ t'.1 148 7 = nI cs'.length ∧ SK1 (t'.1 167) st' ∧ SK1 (t'.1 152) cs') ?_ ?_
            · rintro v21 v22 t' ⟨st', fr', cs', hnx, rfl, rfl, hsum, a1, a2, a3, a4, a5, a6, a7, a8, a9, a10, a11⟩
              refine ih _ _ _ ⟨k + 1, st', fr', cs', itr_s hit hnx, rfl, rfl, a1, a2, a3, a4, a5, a6, a7, a8, a9, fun b hb hb60 => ?_, a10, a11⟩ ?_
              · rw [a9, eq_ok (by omega) (by omega)] at hb
                rw [cl_ok (by omega)]
                omega
              · rw [a9, t7, cl_ok (by omega), cl_ok (by omega), cl_ok (by omega), cl_ok (by omega)]
                omega
            · intro j24 hj24
              rw [ile (by decide) (by omega)]
              by_cases hy10 : y < 10
              · have hnx : nxt G (uT tx) L (Dof (s.1 19)) (y :: st0, fr, cs) = if fr < L ∧ uT tx fr = y then some (st0, fr + 1, cs) else none := by
                  show (if y < 10 then _ else _) = _
                  rw [if_pos hy10]
                rw [if_neg (by omega), t24, ieq (by omega) (by omega)]
                by_cases hle : fr = L
                · rw [if_pos hle]
                  exact bad (by rw [hnx, if_neg (by omega)])
                · have x1 := hU fr (by omega)
                  have x2 := hu5 fr (by omega)
                  rw [if_neg hle, ra_ok _ _ (by omega) (by decide), x1, ieq (by omega) (by omega)]
                  by_cases hc : uT tx fr = y
                  · rw [if_pos hc, lt_def, nI_add]
                    exact hj24 _ _ _ ⟨st0, fr + 1, cs, by rw [hnx, if_pos ⟨by omega, hc⟩], rfl, rfl, by omega, hc60, by omega, by omega, fun z hz => h16 z (List.mem_cons_of_mem _ hz), hf, k148, t24, hU, t7, hS.2, hC⟩
                  · rw [if_neg hc]
                    exact bad (by rw [hnx, if_neg (fun h => hc h.2)])
              · have hnx : nxt G (uT tx) L (Dof (s.1 19)) (y :: st0, fr, cs) = if cs.length < 60 then (match cho G (Dof (s.1 19) (y - 10)) (bgl (fun i => uT tx (fr + i)) (min (Dof (s.1 19) (y - 10)) (L - fr))) (y - 10) with | none => none | some p => some (rh G p ++ st0, fr, p :: cs)) else none := by
                  show (if y < 10 then _ else _) = _
                  rw [if_neg hy10]
                  rfl
                obtain ⟨r, e1, e2⟩ := choose_m (n := n) hXt hK hMt hDt t24 hU hu5 hL (x := y - 10) (fr := fr) (by omega) hfr hn
                rw [if_pos (by omega), nI_subN (by omega), e1, bd_ok, lt_def]
                rcases e2 with ⟨e2, rfl⟩ | ⟨p, e2, hp, rfl⟩
                · rw [if_pos rfl]
                  refine bad ?_
                  rw [hnx, e2]
                  by_cases h : cs.length < 60
                  · rw [if_pos h]
                  · rw [if_neg h]
                · have hp16 := w.1.2
                  rw [if_neg (neg_lt (by omega)), t7, ieq (by omega) (by decide)]
                  by_cases h60 : cs.length = 60
                  · rw [if_pos h60]
                    refine bad ?_
                    rw [hnx, if_neg (by omega)]
                  · have hl5 := (w.2.1 p hp).2
                    obtain ⟨N, hN⟩ : ∃ N, N = G.2.2.1 p := ⟨_, rfl⟩
                    rw [← hN] at hl5
                    rw [if_neg h60, wa_ok _ (by omega) (by decide), cl_ok (by omega), lt_def, lt_def]
                    have e7 : (si t 152 cs.length (nI p)).1 148 7 = nI cs.length := by rw [si_r _ _ _ _ (by decide)]; exact t7
                    rw [e7, nI_add]
                    obtain ⟨t3, ht3⟩ : ∃ t3, t3 = si (si t 152 cs.length (nI p)) 148 7 (nI (cs.length + 1)) := ⟨_, rfl⟩
                    rw [← ht3]
                    have g3 : Fr isPq s t3 := by rw [ht3]; exact (hf.tr (Fr.si (Or.inr (Or.inl rfl)))).tr (Fr.si (Or.inl rfl))
                    have hM3 := hM.fr g3 (fun q hq => by unfold isPq; omega)
                    have c148 : ∀ k, k ≠ 7 → t3.1 148 k = t.1 148 k := by intro k hk; rw [ht3]; simp [si_1, hk]
                    have c7 : t3.1 148 7 = nI (cs.length + 1) := by rw [ht3]; simp [si_1]
                    have c166 : t3.1 166 = t.1 166 := by rw [ht3, si_r _ _ _ _ (by decide), si_r _ _ _ _ (by decide)]
                    have c167 : t3.1 167 = t.1 167 := by rw [ht3, si_r _ _ _ _ (by decide), si_r _ _ _ _ (by decide)]
                    have c152 : SK1 (t3.1 152) (p :: cs) := by
                      rw [ht3, si_r _ _ _ _ (by decide), si_q]
                      exact SK1.push hC
                    rw [size_e hM3.1 w hp, bd_ok, lt_def, ← hN]
                    refine wp_dn3 (fun j v t' => j ≤ N ∧ v = nI (rhs G p (N - j) j ++ st0).length ∧ Fr isPq s t' ∧ t'.1 148 = t3.1 148 ∧ t'.1 166 = t.1 166 ∧ t'.1 152 = t3.1 152 ∧ SK1 (t'.1 167) (rhs G p (N - j) j ++ st0)) ?_ ?_ n N _ t3 ⟨Nat.le_refl _, by rw [Nat.sub_self]; rfl, g3, rfl, c166, rfl, by rw [Nat.sub_self, c167]; exact hS.2⟩ (by omega)
                    · rintro rec2 j v t' ⟨hjN, rfl, hf', d148, d166, d152, hS'⟩ ih2
                      have hM' := hM.fr hf' (fun q hq => by unfold isPq; omega)
                      have hj : j < G.2.2.1 p := by omega
                      obtain ⟨l0, hl0⟩ : ∃ l0, l0 = (rhs G p (N - (j + 1)) (j + 1) ++ st0).length := ⟨_, rfl⟩
                      have hlen0 : l0 = N - (j + 1) + st0.length := by rw [hl0, List.length_append, rhs_len]
                      have eL : rhs G p (N - j) j ++ st0 = G.2.2.2 p j :: (rhs G p (N - (j + 1)) (j + 1) ++ st0) := by
                        rw [show N - j = (N - (j + 1)) + 1 by omega]
                        rfl
                      rw [← hl0, if_neg (nlt0 (by omega)), at_e hM'.1 w hp hj, bd_ok, wa_ok _ (by omega) (by decide), cl_ok (by omega), lt_def, lt_def, lt_def, dn_m, nI_add]
                      refine ih2 _ _ ⟨by omega, ?_, hf'.tr (Fr.si (by unfold isPq; omega)), ?_, ?_, ?_, ?_⟩
                      · rw [eL, hl0]
                        rfl
                      · rw [si_r _ _ _ _ (by decide)]; exact d148
                      · rw [si_r _ _ _ _ (by decide)]; exact d166
                      · rw [si_r _ _ _ _ (by decide)]; exact d152
                      · rw [eL, si_q, hl0]
                        exact SK1.push hS'
                    · rintro rec2 v t' ⟨_, rfl, hf', d148, d166, d152, hS'⟩
                      rw [Nat.sub_zero] at hS' ⊢
                      rw [hN] at hS' ⊢
                      have hlen3 : (rh G p ++ st0).length = N + st0.length := by
                        rw [List.length_append]
                        show (rhs G p (G.2.2.1 p) 0).length + _ = _
                        rw [rhs_len, hN]
                      rw [if_pos dn_neg]
                      refine hj24 _ _ _ ⟨rh G p ++ st0, fr, p :: cs, by rw [hnx, if_pos (by omega), e2], rfl, rfl, ?_, ?_, hfr, ?_, S16y.rh w hp (fun z hz => h16 z (List.mem_cons_of_mem _ hz)), hf', fun k a b => ?_, ?_, fun i hi => ?_, ?_, hS', ?_⟩
                      · show fr + (cs.length + 1) = _
                        omega
                      · show cs.length + 1 ≤ 60
                        omega
                      · show _ ≤ 1 + 4 * (cs.length + 1)
                        omega
                      · rw [d148, c148 k a]; exact k148 k a b
                      · rw [d148, c148 24 (by decide)]; exact t24
                      · rw [d166]; exact hU i hi
                      · rw [d148]; exact c7
                      · rw [d152]; exact c152
        · rw [List.mem_singleton] at hy
          omega
        · rw [e148, z72] at hb
          have hb' : nI 0 = nI b := hb
          rw [eq_ok (by decide) (by omega)] at hb'
          rw [cl_ok (by decide), ← hb']
          rfl
        · rw [e148, z72]
          show 80 - (nI 0).toNatClampNeg - (nI 0).toNatClampNeg < n
          rw [cl_ok (by decide)]
          omega
      · rw [if_neg h9]
        exact wp_some ⟨f2, k2, [], Or.inr (Or.inl ⟨hno, v, hv, h9, rfl, rfl⟩), by decide, z72, trivial⟩
    · rw [if_neg h0]
      exact wp_some ⟨f1, fun k a _ => k1 k a, [], Or.inl ⟨Or.inr (hr.ne h0), rfl, rfl⟩, by decide, z7, trivial⟩
def isPs (q : Nat) : Prop := isPr q ∨ isPq q
theorem parse_b {G : Gr} {L : Nat} {tx : Nat → Nat} {s : PH} (hX : XG G s) (hK : GK G) (hM : MLd G s) (hT : TX L tx s) {n : Nat} (hn : 300 ≤ n) : ∃ r s1 s2, fX11_parse n s = some (r, s1) ∧ fX12_parse n s1 = some (r, s2) ∧ Fr isPs s s2 ∧ (∀ k, k ≠ 7 → k ≠ 24 → s2.1 148 k = s.1 148 k) ∧ CHs s2 := by
  have w := hK.1
  obtain ⟨r, s1, e1, f1, cs, a1, a2, a3, a4⟩ := parse_c hX hK hT hn
  have hX1 := hX.fr w f1 (fun q hq => by unfold isPr; omega)
  have hM1 := hM.fr f1 (fun q hq => by unfold isPr; omega)
  have hT1 : TX L tx s1 := hT.fr f1 (by unfold isPr; omega) (by unfold isPr; omega) (by unfold isPr; omega) (by rw [(f1 148 (by unfold isPr; omega)).1])
  obtain ⟨r2, s2, e2, f2, k2, cs2, b1, b2, b3, b4⟩ := parse_m hX1 hK hM1 hT1 hn
  rw [(f1 19 (by unfold isPr; omega)).1] at b1
  obtain ⟨er, ec⟩ := b1.uniq a1
  subst er; subst ec
  refine ⟨r2, s1, s2, e1, e2, (f1.wk (fun q hq => Or.inl hq)).tr (f2.wk (fun q hq => Or.inr hq)), fun k a b => ?_, cs2.length, b2, ?_, b3, fun i hi => ?_⟩
  · rw [k2 k a b, (f1 148 (by unfold isPr; omega)).1]
  · rw [(f2 21 (by unfold isPq; omega)).1]; exact a3
  · rw [(f2 23 (by unfold isPq; omega)).1]; exact SK1.eq cs2 a4 b4 i hi
