/-! ===== BOTH: the shortest words with several derivations ===== -/
def plc (u : Nat → Nat) (a : Nat) : Nat → Nat
  | 0 => 0
  | n + 1 => 5 * plc u a n + u (a + n) + 1
def ofs : Nat → Nat
  | 0 => 0
  | n + 1 => 5 * ofs n + 1
def cod (u : Nat → Nat) : Nat → Nat
  | 0 => 0
  | n + 1 => 6 * cod u n + u n + 1
def L5 (u : Nat → Nat) (n : Nat) : Prop := ∀ i, i < n → u i < 5
theorem plc_cg {u v : Nat → Nat} {a b : Nat} : ∀ n, (∀ i, i < n → u (a + i) = v (b + i)) → plc u a n = plc v b n
  | 0, _ => rfl
  | n + 1, h => by
    show 5 * plc u a n + u (a + n) + 1 = 5 * plc v b n + v (b + n) + 1
    rw [plc_cg n (fun i hi => h i (by omega)), h n (by omega)]
theorem cod_cg {u v : Nat → Nat} : ∀ n, (∀ i, i < n → u i = v i) → cod u n = cod v n
  | 0, _ => rfl
  | n + 1, h => by
    show 6 * cod u n + u n + 1 = 6 * cod v n + v n + 1
    rw [cod_cg n (fun i hi => h i (by omega)), h n (by omega)]
theorem plc_bd {u : Nat → Nat} {a : Nat} : ∀ n, (∀ i, i < n → u (a + i) < 5) → ofs n ≤ plc u a n ∧ plc u a n < ofs (n + 1)
  | 0, _ => ⟨Nat.le_refl _, by show 0 < 5 * 0 + 1; omega⟩
  | n + 1, h => by
    have h1 := plc_bd n (fun i hi => h i (by omega))
    have h2 := h n (by omega)
    have e1 : ofs (n + 1) = 5 * ofs n + 1 := rfl
    have e2 : ofs (n + 1 + 1) = 5 * ofs (n + 1) + 1 := rfl
    have e3 : plc u a (n + 1) = 5 * plc u a n + u (a + n) + 1 := rfl
    omega
theorem ofs_le : ∀ k n, ofs n ≤ ofs (n + k)
  | 0, _ => Nat.le_refl _
  | k + 1, n => by
    have := ofs_le k n
    have e : ofs (n + (k + 1)) = 5 * ofs (n + k) + 1 := rfl
    omega
theorem plc_lt {u v : Nat → Nat} {a b n m : Nat} (hu : ∀ i, i < n → u (a + i) < 5) (hv : ∀ i, i < m → v (b + i) < 5) (h : n < m) : plc u a n < plc v b m := by
  have h1 := plc_bd n hu
  have h2 := plc_bd m hv
  have h3 := ofs_le (m - (n + 1)) (n + 1)
  rw [show n + 1 + (m - (n + 1)) = m by omega] at h3
  omega
theorem plc_in {u v : Nat → Nat} {a b : Nat} : ∀ n, (∀ i, i < n → u (a + i) < 5) → (∀ i, i < n → v (b + i) < 5) → plc u a n = plc v b n → ∀ i, i < n → u (a + i) = v (b + i)
  | 0, _, _, _, i, hi => absurd hi (Nat.not_lt_zero i)
  | n + 1, hu, hv, h, i, hi => by
    have e1 : plc u a (n + 1) = 5 * plc u a n + u (a + n) + 1 := rfl
    have e2 : plc v b (n + 1) = 5 * plc v b n + v (b + n) + 1 := rfl
    have h1 := hu n (by omega)
    have h2 := hv n (by omega)
    by_cases e : i = n
    · rw [e]; omega
    · exact plc_in n (fun i hi => hu i (by omega)) (fun i hi => hv i (by omega)) (by omega) i (by omega)
theorem L5.sh {u : Nat → Nat} {n : Nat} (h : L5 u n) : ∀ i, i < n → u (0 + i) < 5 := fun i hi => by rw [Nat.zero_add]; exact h i hi
theorem plc_eq {u v : Nat → Nat} {n m : Nat} (hu : L5 u n) (hv : L5 v m) (h : plc u 0 n = plc v 0 m) : n = m ∧ ∀ i, i < n → u i = v i := by
  have e : n = m := by
    rcases Nat.lt_trichotomy n m with h1 | h1 | h1
    · have := plc_lt hu.sh hv.sh h1; omega
    · exact h1
    · have := plc_lt hv.sh hu.sh h1; omega
  subst e
  refine ⟨rfl, fun i hi => ?_⟩
  have := plc_in n hu.sh hv.sh h i hi
  rw [Nat.zero_add] at this
  exact this
theorem plc_781 {u : Nat → Nat} {n : Nat} (hu : L5 u n) (hn : n ≤ 4) : plc u 0 n < 781 := by
  have h1 := plc_bd n hu.sh
  have h2 := ofs_le (4 - n) (n + 1)
  rw [show n + 1 + (4 - n) = 5 by omega] at h2
  have : ofs 5 = 781 := rfl
  omega
theorem NT_tr {G : Gr} {u u' : Nat → Nat} {a a' n : Nat} (hu : ∀ i, i < n → u (a + i) = u' (a' + i)) (x : Nat) : NT G u x a (a + n) = NT G u' x a' (a' + n) := by
  unfold NT
  rw [NN_tr hu]
theorem NT_tr0 {G : Gr} {u u' : Nat → Nat} {n : Nat} (hu : ∀ i, i < n → u i = u' i) (x : Nat) : NT G u x 0 n = NT G u' x 0 n := by
  have := NT_tr (G := G) (u := u) (u' := u') (a := 0) (a' := 0) (n := n) (fun i hi => by rw [Nat.zero_add]; exact hu i hi) x
  rw [Nat.zero_add] at this
  exact this
/-- how many derivations a word has -/
def dvs (G : Gr) (u : Nat → Nat) (n : Nat) : Nat := NT G u (G.2.1 0) 0 n
/-- no word before this place has several -/
def NOS (G : Gr) (P : Nat) : Prop := ∀ u n, L5 u n → n ≤ 4 → plc u 0 n < P → dvs G u n ≤ 1
def AMR (G : Gr) (r : Int32) : Prop := (∃ u n, L5 u n ∧ n ≤ 4 ∧ 1 < dvs G u n ∧ NOS G (plc u 0 n) ∧ r = nI (cod u n)) ∨ (NOS G 781 ∧ r = -9)
theorem AMR.uniq {G : Gr} {r r' : Int32} (h : AMR G r) (h' : AMR G r') : r = r' := by
  rcases h with ⟨u, n, a1, a2, a3, a4, rfl⟩ | ⟨a1, rfl⟩
  · rcases h' with ⟨v, m, b1, b2, b3, b4, rfl⟩ | ⟨b1, rfl⟩
    · have h1 : ¬ plc u 0 n < plc v 0 m := fun h => by have := b4 u n a1 a2 h; omega
      have h2 : ¬ plc v 0 m < plc u 0 n := fun h => by have := a4 v m b1 b2 h; omega
      obtain ⟨e1, e2⟩ := plc_eq a1 b1 (by omega)
      subst e1
      rw [cod_cg n e2]
    · have := b1 u n a1 a2 (plc_781 a1 a2)
      omega
  · rcases h' with ⟨v, m, b1, b2, b3, b4, rfl⟩ | ⟨b1, rfl⟩
    · have := a1 v m b1 b2 (plc_781 b1 b2)
      omega
    · rfl
theorem NOS.s {G : Gr} {P : Nat} (h : NOS G P) {u : Nat → Nat} {n : Nat} (hu : L5 u n) (e : plc u 0 n = P) (hd : dvs G u n ≤ 1) : NOS G (P + 1) := by
  intro v m b1 b2 b3
  by_cases e2 : plc v 0 m = P
  · obtain ⟨e3, e4⟩ := plc_eq b1 hu (by omega)
    subst e3
    unfold dvs
    rw [NT_tr0 e4]
    exact hd
  · exact h v m b1 b2 (by omega)
/-- what is derived has no letters but those of the grammar -/
theorem sL_in {u : Nat → Nat} {W : Nat → Nat → Nat → Nat} {q : Nat → Nat} {Ls : Nat → Bool} {a : Nat} : ∀ i b, (∀ j, j < i → q j < 10 → Ls (q j) = true) → (∀ j c d, j < i → 10 ≤ q j → c ≤ d → W (q j - 10) c d ≠ 0 → ∀ k, c ≤ k → k < d → Ls (u k) = true) → sL u W q i a b ≠ 0 → ∀ k, a ≤ k → k < b → Ls (u k) = true
  | 0, b, _, _, hn, k, h1, h2 => by
    have : sL u W q 0 a b = 0 := if_neg (by omega)
    exact absurd this hn
  | i + 1, b, hq, hW, hn, k, h1, h2 => by
    obtain ⟨j, hj, hp⟩ := rs_ne _ hn
    have n1 : sL u W q i a (a + j) ≠ 0 := fun e => hp (by show sL u W q i a (a + j) * _ = 0; rw [e, Nat.zero_mul])
    have n2 : sy u W (q i) (a + j) b ≠ 0 := fun e => hp (by show _ * sy u W (q i) (a + j) b = 0; rw [e, Nat.mul_zero])
    by_cases hk : k < a + j
    · exact sL_in i (a + j) (fun j hj => hq j (by omega)) (fun j c d hj => hW j c d (by omega)) n1 k h1 hk
    · unfold sy at n2
      by_cases h10 : q i < 10
      · rw [if_pos h10] at n2
        by_cases hc : b = a + j + 1 ∧ u (a + j) = q i
        · rw [show k = a + j by omega, hc.2]
          exact hq i (by omega) h10
        · rw [if_neg hc] at n2
          exact absurd rfl n2
      · rw [if_neg h10] at n2
        exact hW i (a + j) b (by omega) (by omega) (by omega) n2 k (by omega) h2
theorem DD_in {G : Gr} (w : WG G) {Ls : Nat → Bool} (hLs : LTS G (fun _ => rI G 6) G.1 Ls) (u : Nat → Nat) : ∀ h x a b, rI G 6 x = true → DD G u h x a b ≠ 0 → ∀ k, a ≤ k → k < b → Ls (u k) = true
  | 0, _, _, _, _, hn, _, _, _ => absurd rfl hn
  | h + 1, x, a, b, hr, hn, k, h1, h2 => by
    obtain ⟨p, hp, hx, hs⟩ := pS_ne _ hn
    have hr' : rI G 6 (G.2.1 p) = true := by rw [hx]; exact hr
    exact sL_in (G.2.2.1 p) b (fun j hj h10 => hLs p hp hr' j hj h10) (fun j c d hj h10 hcd hW => DD_in w hLs u h _ c d (rI_cl w hp hj hr' h10) hW) hs k h1 h2
theorem NT_in {G : Gr} (w : WG G) {Ls : Nat → Bool} (hLs : LTS G (fun _ => rI G 6) G.1 Ls) {u : Nat → Nat} {x a b : Nat} (hn : NT G u x a b ≠ 0) : ∀ k, a ≤ k → k < b → Ls (u k) = true := by
  unfold NT at hn
  by_cases h : rI G 6 x = true
  · rw [if_pos h] at hn
    exact DD_in w hLs u 64 x a b h (fun e => hn (by unfold NN; rw [e]; rfl))
  · rw [if_neg h] at hn
    exact absurd rfl hn
/-! the class -/
def prr (P : Nat) : Nat → Nat
  | 0 => P
  | j + 1 => (prr P j - 1) / 5
theorem prr_le (P : Nat) : ∀ j, prr P j ≤ P
  | 0 => Nat.le_refl _
  | j + 1 => by
    have := prr_le P j
    show (prr P j - 1) / 5 ≤ P
    omega
theorem prr_4 {P : Nat} (h : P < 781) : prr P 4 = 0 := by
  show ((((P - 1) / 5 - 1) / 5 - 1) / 5 - 1) / 5 = 0
  omega
theorem prr_plc {P l : Nat} (h0 : prr P l = 0) (hp : ∀ i, i < l → 0 < prr P i) : ∀ m, m ≤ l → plc (fun i => (prr P (l - 1 - i) - 1) % 5) 0 m = prr P (l - m)
  | 0, _ => by
    show 0 = prr P (l - 0)
    rw [Nat.sub_zero, h0]
  | m + 1, h => by
    show 5 * plc (fun i => (prr P (l - 1 - i) - 1) % 5) 0 m + (prr P (l - 1 - (0 + m)) - 1) % 5 + 1 = prr P (l - (m + 1))
    rw [prr_plc h0 hp m (by omega), Nat.zero_add, show l - 1 - m = l - (m + 1) by omega]
    have h1 := hp (l - (m + 1)) (by omega)
    have e : prr P (l - m) = (prr P (l - (m + 1)) - 1) / 5 := by
      rw [show l - m = (l - (m + 1)) + 1 by omega]
      rfl
    omega
theorem spell_c {s : PH} {P n : Nat} (hP : P < 781) (hn : 20 ≤ n) : wp (fX0_spell n (nI P) s) (fun r t => Fr (fun q => q = 144) s t ∧ ∃ l u, l ≤ 4 ∧ r = nI l ∧ plc u 0 l = P ∧ L5 u l ∧ ∀ i, i < l → t.1 144 i = nI (u i)) := by
  unfold fX0_spell
  simp only [lt_def]
  refine wp_loo3 (fun v3 v4 t => ∃ j, v3 = nI j ∧ j ≤ 4 ∧ v4 = nI (prr P j) ∧ t = s ∧ ∀ i, i < j → 0 < prr P i) (fun v3 _ _ => 5 - v3.toNatClampNeg) ?_ n _ _ s ⟨0, rfl, by omega, rfl, rfl, fun i hi => absurd hi (Nat.not_lt_zero i)⟩ (by omega)
  rintro rec v3 v4 t ⟨l, rfl, hl, rfl, rfl, hp⟩ ih
  have hle := prr_le P l
  refine wp_jn1 (fun t' => t' = t ∧ prr P l = 0) ?_ ?_
  · rintro t' ⟨rfl, h0⟩
    refine wp_dn3 (fun j v t2 => j ≤ l ∧ v = nI (prr P (l - j)) ∧ Fr (fun q => q = 144) t' t2 ∧ ∀ i, j ≤ i → i < l → t2.1 144 i = nI ((prr P (l - 1 - i) - 1) % 5)) ?_ ?_ n l _ t' ⟨Nat.le_refl _, by rw [Nat.sub_self]; rfl, Fr.rf, fun i h1 h2 => by omega⟩ (by omega)
    · rintro rec2 j v t2 ⟨hjl, rfl, hf, hw⟩ ih2
      have h1 := hp (l - (j + 1)) (by omega)
      have h2 := prr_le P (l - (j + 1))
      have e : prr P (l - j) = (prr P (l - (j + 1)) - 1) / 5 := by
        rw [show l - j = (l - (j + 1)) + 1 by omega]
        rfl
      rw [if_neg (nlt0 (by omega)), nI_subN (by omega), pk_div (by omega) (by omega) (by omega), nI_mulN, nI_subN (by omega)]
      unfold fX1_setLetter
      simp (disch := omega) only [wa_ok, cl_ok, lt_def, bd_ok, dn_m]
      rw [← e, show prr P (l - (j + 1)) - 1 - prr P (l - j) * 5 = (prr P (l - (j + 1)) - 1) % 5 by omega]
      refine ih2 _ _ ⟨by omega, rfl, hf.tr (Fr.si rfl), fun i k1 k2 => ?_⟩
      rw [show cId 1 1 = 144 from rfl, si_q]
      dsimp only
      by_cases ei : i = j
      · rw [if_pos ei, ei, show l - 1 - j = l - (j + 1) by omega]
      · rw [if_neg ei]; exact hw i (by omega) k2
    · rintro rec2 v t2 ⟨_, _, hf, hw⟩
      rw [if_pos dn_neg]
      refine wp_some ⟨hf, l, fun i => (prr P (l - 1 - i) - 1) % 5, hl, rfl, ?_, fun i hi => ?_, fun i hi => hw i (Nat.zero_le _) hi⟩
      · rw [prr_plc h0 hp l (Nat.le_refl _), Nat.sub_self]
        rfl
      · show (prr P (l - 1 - i) - 1) % 5 < 5
        omega
  · intro j8 hj8
    rw [ilez (by omega)]
    by_cases h0 : prr P l ≤ 0
    · rw [if_pos h0]
      exact hj8 _ ⟨rfl, by omega⟩
    · rw [if_neg h0, ile (by decide) (by omega)]
      by_cases h4 : 4 ≤ l
      · rw [if_pos h4]
        refine hj8 _ ⟨rfl, ?_⟩
        rw [show l = 4 by omega]
        exact prr_4 hP
      · rw [if_neg h4, nI_subN (by omega), pk_div (by omega) (by omega) (by omega), nI_add]
        refine ih _ _ _ ⟨l + 1, rfl, by omega, rfl, rfl, fun i hi => ?_⟩ (by simp (disch := omega) only [cl_ok]; omega)
        by_cases e : i = l
        · rw [e]; omega
        · exact hp i (by omega)
theorem isOver_c {s : PH} {u : Nat → Nat} {l n : Nat} {Ls : Nat → Bool} (hl : l ≤ 4) (hu : L5 u l) (hw : ∀ i, i < l → s.1 144 i = nI (u i)) (hn : 20 ≤ n) : ∃ r, fX0_isOver n (nI (mk Ls)) (nI l) s = some (r, s) ∧ PB r (∀ i, i < l → Ls (u i) = true) := by
  have key : wp (fX0_isOver n (nI (mk Ls)) (nI l) s) (fun r t => t = s ∧ PB r (∀ i, i < l → Ls (u i) = true)) := by
    unfold fX0_isOver
    simp only [lt_def]
    refine wp_for2 l (by omega) (fun j t => t = s ∧ ∀ i, i < j → Ls (u i) = true) ?_ ?_ n 0 s (by omega) ⟨rfl, fun i hi => absurd hi (Nat.not_lt_zero i)⟩ (by omega)
    · rintro rec j t hj ⟨rfl, hall⟩ ih
      have := hu j hj
      have rw1 : t.1 (cId 1 1) j = nI (u j) := hw j hj
      unfold fX1_letter
      simp (disch := omega) only [le_ok, if_neg, ra_ok, rw1, bd_ok, bit_c, bI_0, nI_add]
      by_cases h : Ls (u j) = false
      · rw [if_pos h]
        refine wp_some ⟨rfl, PB.f (fun h2 => ?_)⟩
        rw [h2 j hj] at h
        cases h
      · rw [if_neg h]
        refine ih _ ⟨rfl, fun i hi => ?_⟩
        by_cases e : i = j
        · rw [e]; simpa using h
        · exact hall i (by omega)
    · rintro rec t ⟨rfl, hall⟩
      simp (disch := omega) only [le_ok, if_pos]
      exact wp_some ⟨rfl, PB.t hall⟩
  obtain ⟨r, t, e, rfl, hp⟩ := key
  exact ⟨r, e, hp⟩
theorem number_c {s : PH} {u : Nat → Nat} {l n : Nat} (hl : l ≤ 4) (hu : L5 u l) (hw : ∀ i, i < l → s.1 144 i = nI (u i)) (hn : 20 ≤ n) : fX0_number n (nI l) s = some (nI (cod u l), s) := by
  have key : wp (fX0_number n (nI l) s) (fun r t => t = s ∧ r = nI (cod u l)) := by
    unfold fX0_number
    simp only [lt_def]
    refine wp_for3 l (by omega) (fun j v t => t = s ∧ v = nI (cod u j)) ?_ ?_ n 0 _ s (by omega) ⟨rfl, rfl⟩ (by omega)
    · rintro rec j v t hj ⟨rfl, rfl⟩ ih
      have rw1 : t.1 (cId 1 1) j = nI (u j) := hw j hj
      unfold fX1_letter
      simp (disch := omega) only [le_ok, if_neg, ra_ok, rw1, bd_ok, nI_mulN, nI_add]
      exact ih _ _ ⟨rfl, rfl⟩
    · rintro rec v t ⟨rfl, rfl⟩
      simp (disch := omega) only [le_ok, if_pos]
      exact wp_some ⟨rfl, rfl⟩
  obtain ⟨r, t, e, rfl, rfl⟩ := key
  exact e
theorem enterParts_c {s : PH} {u : Nat → Nat} {l n : Nat} (hl : l ≤ 4) (hu : L5 u l) (hw : ∀ i, i < l → s.1 144 i = nI (u i)) (hn : 20 ≤ n) : wp (fX0_enterParts n (nI l) s) (fun _ t => Fr (fun q => q = 145) s t ∧ ∀ c d, c ≤ d → d ≤ l → t.1 145 (9 * c + d) = nI (6 * plc u c (d - c))) := by
  unfold fX0_enterParts
  simp only [lt_def]
  refine wp_for2 (l + 1) (by omega) (fun c t => Fr (fun q => q = 145) s t ∧ ∀ c' d, c' < c → c' ≤ d → d ≤ l → t.1 145 (9 * c' + d) = nI (6 * plc u c' (d - c'))) ?_ ?_ n 0 s (by omega) ⟨Fr.rf, fun c' d h => absurd h (Nat.not_lt_zero _)⟩ (by omega)
  · rintro rec c t hc ⟨hf, hE⟩ ih
    rw [if_neg (by rw [lt_ok (by omega) (by omega)]; omega)]
    unfold fX1_setEntry
    simp (disch := omega) only [nI_mulN, nI_add, wa_ok, cl_ok, lt_def, bd_ok]
    refine wp_for3 (l + 1) (by omega) (fun d v t2 => c + 1 ≤ d ∧ v = nI (plc u c (d - 1 - c)) ∧ Fr (fun q => q = 145) s t2 ∧ (∀ c' d', c' < c → c' ≤ d' → d' ≤ l → t2.1 145 (9 * c' + d') = nI (6 * plc u c' (d' - c'))) ∧ ∀ d', c ≤ d' → d' < d → t2.1 145 (9 * c + d') = nI (6 * plc u c (d' - c))) ?_ ?_ n (c + 1) _ _ (by omega) ⟨Nat.le_refl _, ?_, hf.tr (Fr.si rfl), fun c' d' k1 k2 k3 => ?_, fun d' k1 k2 => ?_⟩ (by omega)
    · rintro rec2 d v t2 hd ⟨hcd, rfl, hf2, hE2, hN⟩ ih2
      have u5 := hu (d - 1) (by omega)
      have rw1 : t2.1 (cId 1 1) (d - 1) = nI (u (d - 1)) := by
        rw [(hf2 (cId 1 1) (by unfold cId; omega)).1]
        exact hw (d - 1) (by omega)
      have e5 : 5 * plc u c (d - 1 - c) + u (d - 1) + 1 = plc u c (d - c) := by
        rw [show d - c = (d - 1 - c) + 1 by omega]
        show _ = 5 * plc u c (d - 1 - c) + u (c + (d - 1 - c)) + 1
        rw [show c + (d - 1 - c) = d - 1 by omega]
      unfold fX1_letter
      rw [if_neg (by rw [lt_ok (by omega) (by omega)]; omega), nI_subN (by omega)]
      simp (disch := omega) only [ra_ok, rw1, bd_ok, nI_mulN, nI_add, wa_ok, cl_ok, e5]
      refine ih2 _ _ ⟨by omega, ?_, hf2.tr (Fr.si rfl), fun c' d' k1 k2 k3 => ?_, fun d' k1 k2 => ?_⟩
      · rw [show d + 1 - 1 - c = d - c by omega]
      · rw [show cId 1 2 = 145 from rfl, si_q]
        dsimp only
        rw [if_neg (by omega)]
        exact hE2 c' d' k1 k2 k3
      · rw [show cId 1 2 = 145 from rfl, si_q]
        dsimp only
        by_cases e : d' = d
        · rw [if_pos (by omega), e, Nat.mul_comm]
        · rw [if_neg (by omega)]; exact hN d' k1 (by omega)
    · rintro rec2 v t2 ⟨hcd, _, hf2, hE2, hN⟩
      rw [if_pos (by rw [lt_ok (by omega) (by omega)]; omega)]
      refine ih _ ⟨hf2, fun c' d' k1 k2 k3 => ?_⟩
      by_cases e : c' = c
      · rw [e]; exact hN d' (by omega) (by omega)
      · exact hE2 c' d' (by omega) k2 k3
    · rw [show c + 1 - 1 - c = 0 by omega]
      rfl
    · rw [show cId 1 2 = 145 from rfl, si_q]
      dsimp only
      rw [if_neg (by omega)]
      exact hE c' d' k1 k2 k3
    · rw [show cId 1 2 = 145 from rfl, si_q]
      dsimp only
      rw [if_pos (by omega), show d' - c = 0 by omega]
      rfl
  · rintro rec t ⟨hf, hE⟩
    rw [if_pos (by rw [lt_ok (by omega) (by omega)]; omega)]
    exact wp_some ⟨hf, fun c d k1 k2 => hE c d (by omega) k1 k2⟩
def isAb (q : Nat) : Prop := 144 ≤ q ∧ q ≤ 147
/-- the table of words, as far as it is known -/
def TBL (G : Gr) (Ls : Nat → Bool) (P : Nat) (s : PH) : Prop := ∀ u n, L5 u n → n ≤ 4 → (∀ i, i < n → Ls (u i) = true) → plc u 0 n < P → ∀ x, x < 6 → s.1 146 (6 * plc u 0 n + x) = nI (NT G u x 0 n)
theorem search_c {G : Gr} {s : PH} (hX : XG G s) (w : WG G) (hA : ACY G) {n : Nat} (hn : 900 ≤ n) : wp (fX0_search n (s.2.2 0 8) s) (fun r t => Fr isAb s t ∧ AMR G r) := by
  obtain ⟨Ls, h76, hLs⟩ := hX.2.2.1.2.2.2.1
  unfold fX0_search
  simp only [lt_def]
  refine wp_for2 781 (by omega) (fun P t => Fr isAb s t ∧ NOS G P ∧ TBL G Ls P t) ?_ ?_ n 0 s (by omega) ⟨Fr.rf, fun _ _ _ _ h => absurd h (Nat.not_lt_zero _), fun _ _ _ _ _ h => absurd h (Nat.not_lt_zero _)⟩ (by omega)
  · rintro rec P t hP ⟨hf, hN, hB⟩ ih
    rw [if_neg (by rw [le_ok (by decide) (by omega)]; omega)]
    refine wp_call (spell_c hP (show 20 ≤ n by omega)) (fun r t1 ⟨f1, l, u, hl, er, eP, hu, hw⟩ => ?_)
    subst er
    have g1 : Fr isAb s t1 := hf.tr (f1.wk (fun q hq => by unfold isAb; omega))
    have r76 : t1.1 7 6 = nI (mk Ls) := by rw [(g1 7 (by unfold isAb; omega)).1]; exact h76
    obtain ⟨r2, e2, hr2⟩ := isOver_c (Ls := Ls) (n := n) hl hu hw (by omega)
    have hB1 : TBL G Ls P t1 := by
      unfold TBL
      rw [(f1 146 (by omega)).1]
      exact hB
    rw [show fX9_letters t1 = some (t1.1 7 6, t1) from rfl, bd_ok, r76, e2, bd_ok, nI_add]
    refine wp_jn1 (fun t' => Fr isAb s t' ∧ NOS G (P + 1) ∧ TBL G Ls (P + 1) t') (fun t' ht' => ih t' ht') ?_
    intro j13 hj13
    by_cases h0 : r2 = 0
    · rw [if_pos h0]
      have hno := hr2.eq h0
      refine hj13 _ ⟨g1, hN.s hu eP ?_, fun v m b1 b2 b3 b4 => ?_⟩
      · have : dvs G u l = 0 := by
          refine Classical.byContradiction (fun hne => hno (fun i hi => ?_))
          exact NT_in w hLs hne i (Nat.zero_le _) hi
        omega
      · by_cases e : plc v 0 m = P
        · obtain ⟨e3, e4⟩ := plc_eq b1 hu (by omega)
          subst e3
          exact absurd (fun i hi => by rw [← e4 i hi]; exact b3 i hi) hno
        · exact hB1 v m b1 b2 b3 (by omega)
    · rw [if_neg h0]
      have hov := hr2.ne h0
      refine wp_call (enterParts_c hl hu hw (show 20 ≤ n by omega)) (fun _ t2 ⟨f2, hE⟩ => ?_)
      have g2 : Fr isAb s t2 := g1.tr (f2.wk (fun q hq => by unfold isAb; omega))
      have hX2 := hX.fr w g2 (fun q hq => by unfold isAb; omega)
      have eg : t2.2.2 0 8 = s.2.2 0 8 := by rw [(g2 0 (by unfold isAb; omega)).2.2]
      have hG2 := hX2.2.1
      rw [eg] at hG2
      have hw2 : ∀ i, i < l → t2.1 144 i = nI (u i) := fun i hi => by rw [(f2 144 (by omega)).1]; exact hw i hi
      have u5 : ∀ c d, d ≤ l → ∀ i, i < d - c → u (c + i) < 5 := fun c d h1 i h2 => hu (c + i) (by omega)
      have low : ∀ c d, c ≤ d → d ≤ l → (0 < c ∨ d < l) → plc u c (d - c) < P := by
        intro c d k1 k2 k3
        rw [← eP]
        exact plc_lt (u5 c d k2) hu.sh (by omega)
      have hC2 : CTB 1 (fun c d => plc u c (d - c)) 0 l t2 := fun c d k1 k2 k3 => by
        refine ⟨?_, ?_⟩
        · rw [show cId 1 2 = 145 from rfl]
          exact hE c d k2 k3
        · show 6 * plc u c (d - c) + 6 ≤ 4686
          by_cases h : 0 < c ∨ d < l
          · have := low c d k2 k3 h
            omega
          · rw [show c = 0 by omega, show d - 0 = l by omega, eP]
            omega
      refine wp_call (fill_c2 (t := 1) (e := fun c d => plc u c (d - c)) (u := u) (a := 0) (b := l) hG2 hX.1 w hX2.2.2.1 hA hC2 (fun c d k1 k2 k3 k4 => ?_) (fun y c d k0 k1 k2 k3 k4 => ?_) (fun m k1 k2 => ⟨hw2 m k2, hu m k2⟩) (Nat.zero_le _) (by omega) (show 30 ≤ n by omega)) (fun _ t3 ⟨f3, hn3, ho3⟩ => ?_)
      · have := low c d k2 k3 k4
        show plc u c (d - c) ≠ plc u 0 (l - 0)
        rw [Nat.sub_zero, eP]
        omega
      · have h1 := low c d k2 k3 k4
        have e1 : plc (fun i => u (c + i)) 0 (d - c) = plc u c (d - c) := plc_cg _ (fun i _ => by rw [Nat.zero_add])
        have h2 := hB1 (fun i => u (c + i)) (d - c) (fun i hi => u5 c d k3 i hi) (by omega) (fun i hi => hov (c + i) (by omega)) (by rw [e1]; exact h1) y k0
        rw [e1] at h2
        have e2 : NT G (fun i => u (c + i)) y 0 (d - c) = NT G u y c d := by
          have := NT_tr (G := G) (u := fun i => u (c + i)) (u' := u) (a := 0) (a' := c) (n := d - c) (fun i _ => by rw [Nat.zero_add]) y
          rw [Nat.zero_add, show c + (d - c) = d by omega] at this
          exact this
        rw [e2] at h2
        rw [show cId 1 3 = 146 from rfl, (f2 146 (by omega)).1]
        exact h2
      · have g3 : Fr isAb s t3 := g2.tr (f3.wk (fun q hq => by unfold isCf cId at hq; unfold isAb; omega))
        have hX3 := hX.fr w g3 (fun q hq => by unfold isAb; omega)
        have eg3 : t3.2.2 0 8 = s.2.2 0 8 := by rw [(g3 0 (by unfold isAb; omega)).2.2]
        have hG3 := hX3.2.1
        rw [eg3] at hG3
        have hst : G.2.1 0 < 6 := lft6 w w.1.1
        have hnt := NT_le G u (G.2.1 0) 0 l
        have r145 : t3.1 (cId 1 2) (0 + l) = nI (6 * P) := by
          rw [(f3 (cId 1 2) (by unfold isCf cId; omega)).1, show cId 1 2 = 145 from rfl]
          have := hE 0 l (Nat.zero_le _) (Nat.le_refl _)
          rw [Nat.sub_zero, eP, Nat.mul_zero] at this
          exact this
        have r146 : t3.1 (cId 1 3) (6 * P + G.2.1 0) = nI (dvs G u l) := by
          have := hn3 (G.2.1 0) hst
          rw [Nat.sub_zero, eP] at this
          exact this
        have ec : fX1_count 1 (nI (G.2.1 0)) (nI 0) (nI l) t3 = some (nI (dvs G u l), t3) := by
          unfold fX1_count
          simp (disch := omega) only [nI_mulN, nI_add, Nat.zero_mul, ra_ok, r145]
          rw [ra_ok _ _ (by show 6 * P + G.2.1 0 < 4686; omega) (by decide), r146]
        have hdl : dvs G u l ≤ 1000000000 := hnt
        rw [start_c hG3 w, bd_ok, ec, bd_ok, ile (by omega) (by decide)]
        by_cases hd : dvs G u l ≤ 1
        · rw [if_pos hd]
          refine hj13 _ ⟨g3, hN.s hu eP hd, fun v m b1 b2 b3 b4 x hx => ?_⟩
          by_cases e : plc v 0 m = P
          · obtain ⟨e3, e4⟩ := plc_eq b1 hu (by omega)
            subst e3
            rw [e, NT_tr0 e4]
            have := hn3 x hx
            rw [Nat.sub_zero, eP] at this
            exact this
          · have h2 := hB1 v m b1 b2 b3 (by omega) x hx
            have h3 := ho3 (6 * plc v 0 m + x) (by rw [Nat.sub_zero, eP]; omega)
            rw [show cId 1 3 = 146 from rfl] at h3
            rw [h3, (f2 146 (by omega)).1]
            exact h2
        · rw [if_neg hd]
          have hw3 : ∀ i, i < l → t3.1 144 i = nI (u i) := fun i hi => by rw [(f3 144 (by unfold isCf cId; omega)).1]; exact hw2 i hi
          rw [number_c hl hu hw3 (show 20 ≤ n by omega), bd_ok]
          exact wp_some ⟨g3, Or.inl ⟨u, l, hu, hl, by omega, by rw [eP]; exact hN, rfl⟩⟩
  · rintro rec t ⟨hf, hN, hB⟩
    rw [if_pos (by rw [le_ok (by decide) (by decide)]; exact Nat.le_refl _)]
    exact wp_some ⟨hf, Or.inr ⟨hN, rfl⟩⟩
/-- what the class keeps of it -/
def AM (G : Gr) (s : PH) : Prop := s.1 29 1 = nI 0 ∨ (s.1 29 1 = nI 1 ∧ AMR G (s.1 29 2))
theorem AM.fr {G : Gr} {P : Nat → Prop} {s t : PH} (h : AM G s) (hf : Fr P s t) (h1 : ¬ P 29) : AM G t := by
  unfold AM
  rw [(hf 29 h1).1]
  exact h
def isAc (q : Nat) : Prop := q = 29 ∨ (144 ≤ q ∧ q ≤ 147)
/-- what ambiguous() answers -/
def AR (G : Gr) (r : Int32) : Prop := (RR G true ∧ r = -2) ∨ (¬ RR G true ∧ AMR G r)
theorem AR.uniq {G : Gr} {r r' : Int32} (h : AR G r) (h' : AR G r') : r = r' := by
  rcases h with ⟨a, rfl⟩ | ⟨a, b⟩
  · rcases h' with ⟨_, rfl⟩ | ⟨a', _⟩
    · rfl
    · exact absurd a a'
  · rcases h' with ⟨a', _⟩ | ⟨_, b'⟩
    · exact absurd a' a
    · exact b.uniq b'
theorem amb_c {G : Gr} {s : PH} (hX : XG G s) (hK : GK G) (hA : AM G s) {n : Nat} (hn : 900 ≤ n) : ∃ r s1, fX11_ambiguous n s = some (r, s1) ∧ Fr isAc s s1 ∧ AM G s1 ∧ AR G r := by
  have w := hK.1
  obtain ⟨_, _, ⟨h8, h9, h77, hLt, h78, h79, hO⟩, _⟩ := id hX
  have hr := reach_c (k := 9) (c := true) h77 h79
  have e1 : fX9_cyclesReachably s = some (if (s.1 7 9 &&& s.1 7 7) = 0 then nI 0 else nI 1, s) := by
    unfold fX9_cyclesReachably
    rw [ite_some]
  unfold fX11_ambiguous
  rw [e1, bd_ok]
  by_cases h0 : (if (s.1 7 9 &&& s.1 7 7) = 0 then nI 0 else nI 1) = 0
  · have hacy := hr.eq h0
    rw [if_pos h0, lt_def]
    unfold fX0_shortest
    rcases hA with h | ⟨h1, h2⟩
    · rw [h, if_pos n0_0]
      obtain ⟨r, t, e, hf, hR⟩ := search_c hX w (RR_acy hacy) hn
      rw [e, bd_ok, lt_def, lt_def, bd_ok]
      have e2 : (si (si t 29 2 r) 29 1 (nI 1)).1 29 2 = r := by simp [si_1]
      refine ⟨_, _, rfl, ((hf.wk (fun q hq => by unfold isAb at hq; unfold isAc; omega)).tr (Fr.si (Or.inl rfl))).tr (Fr.si (Or.inl rfl)), Or.inr ⟨by simp [si_1], by rw [e2]; exact hR⟩, Or.inr ⟨hacy, by rw [e2]; exact hR⟩⟩
    · rw [h1, if_neg n1_0, bd_ok]
      exact ⟨_, _, rfl, Fr.rf, Or.inr ⟨h1, h2⟩, Or.inr ⟨hacy, h2⟩⟩
  · rw [if_neg h0]
    exact ⟨_, _, rfl, Fr.rf, hA, Or.inl ⟨hr.ne h0, rfl⟩⟩
/-! the reference -/
def dv5 (k : Nat) : Nat → Nat
  | 0 => k
  | j + 1 => dv5 k j / 5
theorem dv5_le (k : Nat) : ∀ j, dv5 k j ≤ k
  | 0 => Nat.le_refl _
  | j + 1 => by
    have := dv5_le k j
    show dv5 k j / 5 ≤ k
    omega
def p5 : Nat → Nat
  | 0 => 1
  | n + 1 => p5 n * 5
theorem p5_pos : ∀ n, 0 < p5 n
  | 0 => Nat.one_pos
  | n + 1 => by
    have := p5_pos n
    show 0 < p5 n * 5
    omega
theorem dv5_lt {k : Nat} : ∀ n m, k < p5 (m + n) → dv5 k n < p5 m
  | 0, m, h => h
  | n + 1, m, h => by
    have h1 := dv5_lt n (m + 1) (by rw [show m + 1 + n = m + (n + 1) by omega]; exact h)
    have e : p5 (m + 1) = p5 m * 5 := rfl
    show dv5 k n / 5 < p5 m
    omega
theorem dv5_0 {k n : Nat} (h : k < p5 n) : dv5 k n = 0 := by
  have := dv5_lt (k := k) n 0 (by rw [Nat.zero_add]; exact h)
  have e : p5 0 = 1 := rfl
  omega
theorem dv5_plc {k n : Nat} (h0 : dv5 k n = 0) : ∀ m, m ≤ n → plc (fun i => dv5 k (n - 1 - i) % 5) 0 m = ofs m + dv5 k (n - m)
  | 0, _ => by
    show 0 = 0 + dv5 k (n - 0)
    rw [Nat.sub_zero, h0]
  | m + 1, h => by
    show 5 * plc (fun i => dv5 k (n - 1 - i) % 5) 0 m + dv5 k (n - 1 - (0 + m)) % 5 + 1 = (5 * ofs m + 1) + dv5 k (n - (m + 1))
    rw [dv5_plc h0 m (by omega), Nat.zero_add, show n - 1 - m = n - (m + 1) by omega]
    have e : dv5 k (n - m) = dv5 k (n - (m + 1)) / 5 := by
      rw [show n - m = (n - (m + 1)) + 1 by omega]
      rfl
    omega
theorem ofs_p5 : ∀ n, ofs (n + 1) = ofs n + p5 n
  | 0 => rfl
  | n + 1 => by
    have h := ofs_p5 n
    have e1 : ofs (n + 1 + 1) = 5 * ofs (n + 1) + 1 := rfl
    have e2 : ofs (n + 1) = 5 * ofs n + 1 := rfl
    have e3 : p5 (n + 1) = p5 n * 5 := rfl
    omega
theorem p5_le {n : Nat} (h : n ≤ 4) : p5 n ≤ 625 := by
  have : n = 0 ∨ n = 1 ∨ n = 2 ∨ n = 3 ∨ n = 4 := by omega
  rcases this with rfl | rfl | rfl | rfl | rfl <;> decide
theorem amb_m {G : Gr} {s : PH} (hK : GK G) (hM : MLd G s) {n : Nat} (hn : 900 ≤ n) : wp (fX12_ambiguous n s) (fun r t => Fr isRd s t ∧ (∀ k, k ≠ 24 → t.1 148 k = s.1 148 k) ∧ AR G r) := by
  have w := hK.1
  have hst : G.2.1 0 < 6 := lft6 w w.1.1
  obtain ⟨r0, e0, hr⟩ := someReached_m (q := 157) (c := true) (n := n) hM.2.2.2.1 hM.2.2.2.2.2.1 (by omega)
  unfold fX12_ambiguous
  rw [e0, bd_ok]
  by_cases h0 : r0 = 0
  · have hacy := hr.eq h0
    rw [if_pos h0]
    simp only [lt_def]
    refine wp_for3 5 (by omega) (fun l v t => v = nI (p5 l) ∧ Fr isRd s t ∧ (∀ k, k ≠ 24 → t.1 148 k = s.1 148 k) ∧ NOS G (ofs l)) ?_ ?_ n 0 _ s (by omega) ⟨rfl, Fr.rf, fun _ _ => rfl, fun _ _ _ _ h => absurd h (Nat.not_lt_zero _)⟩ (by omega)
    · rintro rec l v t hl ⟨rfl, hf, h148, hN⟩ ih
      have hp5 := p5_le (n := l) (by omega)
      rw [if_neg (by rw [le_ok (by decide) (by omega)]; omega)]
      refine wp_for2 (p5 l) (by omega) (fun k t => Fr isRd s t ∧ (∀ k, k ≠ 24 → t.1 148 k = s.1 148 k) ∧ NOS G (ofs l + k)) ?_ ?_ n 0 t (by omega) ⟨hf, h148, hN⟩ (by omega)
      · rintro rec2 k t hk ⟨hf, h148, hN⟩ ih2
        rw [if_neg (by rw [le_ok (by omega) (by omega)]; omega)]
        have z0 := dv5_0 hk
        obtain ⟨u, hu⟩ : ∃ u : Nat → Nat, u = fun i => dv5 k (l - 1 - i) % 5 := ⟨_, rfl⟩
        have ePl : plc u 0 l = ofs l + k := by
          rw [hu, dv5_plc z0 l (Nat.le_refl _), Nat.sub_self]
          rfl
        have hu5 : L5 u l := fun i hi => by rw [hu]; show dv5 k (l - 1 - i) % 5 < 5; omega
        refine wp_dn3 (fun j v t2 => j ≤ l ∧ v = nI (dv5 k (l - j)) ∧ Fr isRd s t2 ∧ (∀ k, k ≠ 24 → t2.1 148 k = s.1 148 k) ∧ t2.1 148 24 = nI l ∧ ∀ i, j ≤ i → i < l → t2.1 166 i = nI (u i)) ?_ ?_ n l _ _ ⟨Nat.le_refl _, by rw [Nat.sub_self]; rfl, hf.tr (Fr.si (Or.inl rfl)), fun k hk => by simp [si_1, hk]; exact h148 k hk, by simp [si_1], fun i h1 h2 => by omega⟩ (by omega)
        · rintro rec3 j v t2 ⟨hjl, rfl, hf2, h1482, h24, hw⟩ ih3
          have h2 := dv5_le k (l - (j + 1))
          have e : dv5 k (l - j) = dv5 k (l - (j + 1)) / 5 := by
            rw [show l - j = (l - (j + 1)) + 1 by omega]
            rfl
          rw [if_neg (nlt0 (by omega)), pk_div (by omega) (by omega) (by omega), nI_mulN, nI_subN (by omega), dn_m]
          simp (disch := omega) only [wa_ok, cl_ok]
          rw [← e]
          refine ih3 _ _ ⟨by omega, rfl, hf2.tr (Fr.si (Or.inr (Or.inl rfl))), fun k hk => ?_, ?_, fun i k1 k2 => ?_⟩
          · rw [si_r _ _ _ _ (by decide)]; exact h1482 k hk
          · rw [si_r _ _ _ _ (by decide)]; exact h24
          · rw [si_q]
            dsimp only
            by_cases ei : i = j
            · rw [if_pos ei, ei, hu]
              show _ = nI (dv5 k (l - 1 - j) % 5)
              rw [show l - 1 - j = l - (j + 1) by omega]
              congr 1
              omega
            · rw [if_neg ei]; exact hw i (by omega) k2
        · rintro rec3 v t2 ⟨_, _, hf2, h1482, h24, hw⟩
          rw [if_pos dn_neg]
          refine wp_for3 l (by omega) (fun j v t3 => t3 = t2 ∧ v = nI (cod u j)) ?_ ?_ n 0 _ t2 (by omega) ⟨rfl, rfl⟩ (by omega)
          · rintro rec4 j v t3 hj ⟨rfl, rfl⟩ ih4
            rw [if_neg (by rw [le_ok (by omega) (by omega)]; omega)]
            have rw1 := hw j (Nat.zero_le _) hj
            simp (disch := omega) only [ra_ok, rw1, nI_mulN, nI_add]
            exact ih4 _ _ ⟨rfl, rfl⟩
          · rintro rec4 v t3 ⟨rfl, rfl⟩
            rw [if_pos (by rw [le_ok (by omega) (by omega)]; exact Nat.le_refl _)]
            have hM3 := hM.fr hf2 (fun q hq => by unfold isRd; omega)
            refine wp_call (laysWays_m hM3 w (RR_acy hacy) (u := u) (L := l) (fun i hi => hw i (Nat.zero_le _) hi) hu5 (by omega) h24 (show 500 ≤ n by omega)) (fun _ t4 ⟨hf4, hW⟩ => ?_)
            have hM4 := hM3.fr hf4 (fun q hq => by unfold isD4; omega)
            have f4 : Fr isRd s t4 := hf2.tr (hf4.wk (fun q hq => by unfold isD4 at hq; unfold isRd; omega))
            have h1484 : ∀ k, k ≠ 24 → t4.1 148 k = s.1 148 k := fun k hk => by rw [(hf4 148 (by unfold isD4; omega)).1]; exact h1482 k hk
            have hnt : dvs G u l ≤ 1000000000 := NT_le G u (G.2.1 0) 0 l
            have hw0 : t4.2.1 168 (81 * G.2.1 0 + 9 * 0 + l) = lN (dvs G u l) := hW (G.2.1 0) 0 l hst (Nat.zero_le _) (Nat.le_refl _)
            rw [start_e hM4.1 w, bd_ok]
            unfold fX12_waysOf
            simp (disch := omega) only [nI_mulN, nI_add, ra_ok, bd_ok, hw0]
            rw [lN1, ille (by omega) (by decide)]
            by_cases hd : dvs G u l ≤ 1
            · rw [if_pos hd]
              refine ih2 _ ⟨f4, h1484, ?_⟩
              exact hN.s hu5 ePl hd
            · rw [if_neg hd]
              exact wp_some ⟨f4, h1484, Or.inr ⟨hacy, Or.inl ⟨u, l, hu5, by omega, by omega, by rw [ePl]; exact hN, rfl⟩⟩⟩
      · rintro rec2 t ⟨hf, h148, hN⟩
        rw [if_pos (by rw [le_ok (by omega) (by omega)]; exact Nat.le_refl _), nI_mulN, nI_add]
        refine ih _ _ ⟨rfl, hf, h148, ?_⟩
        rw [ofs_p5]
        exact hN
    · rintro rec v t ⟨_, hf, h148, hN⟩
      rw [if_pos (by rw [le_ok (by decide) (by decide)]; exact Nat.le_refl _)]
      exact wp_some ⟨hf, h148, Or.inr ⟨hacy, Or.inr ⟨hN, rfl⟩⟩⟩
  · rw [if_neg h0]
    exact wp_some ⟨Fr.rf, fun _ _ => rfl, Or.inl ⟨hr.ne h0, rfl⟩⟩
def isAd (q : Nat) : Prop := isAc q ∨ isRd q
theorem amb_b {G : Gr} {s : PH} (hX : XG G s) (hK : GK G) (hM : MLd G s) (hA : AM G s) {n : Nat} (hn : 900 ≤ n) : ∃ r s1 s2, fX11_ambiguous n s = some (r, s1) ∧ fX12_ambiguous n s1 = some (r, s2) ∧ Fr isAd s s2 ∧ (∀ k, k ≠ 24 → s2.1 148 k = s.1 148 k) ∧ AM G s2 := by
  obtain ⟨r, s1, e1, f1, a1, hr⟩ := amb_c hX hK hA hn
  have hM1 := hM.fr f1 (fun q hq => by unfold isAc; omega)
  obtain ⟨r2, s2, e2, f2, k2, hr2⟩ := amb_m hK hM1 hn
  have er : r2 = r := hr2.uniq hr
  subst er
  refine ⟨r2, s1, s2, e1, e2, (f1.wk (fun q hq => Or.inl hq)).tr (f2.wk (fun q hq => Or.inr hq)), fun k hk => ?_, a1.fr f2 (by unfold isRd; omega)⟩
  rw [k2 k hk, (f1 148 (by unfold isAc; omega)).1]
