/-! ===== the class: in how many ways ===== -/
theorem minL {v : Nat} (h : v < 9223372036854775808) : (if lN v < (1000000000 : Int64) then lN v else (1000000000 : Int64)) = lN (sat v) := by
  have e : (1000000000 : Int64) = lN 1000000000 := by decide +kernel
  rw [e]
  unfold sat
  simp (disch := omega) only [llt_ok]
  by_cases hv : v < 1000000000
  · rw [if_pos hv, Nat.min_eq_right (by omega)]
  · rw [if_neg hv, Nat.min_eq_left (by omega)]
theorem dn_lt {l : Nat} (h : l < 2147483647) : nI l - nI 1 < nI l := by
  cases l with
  | zero => rw [dn_0]; exact dn_neg
  | succ j => rw [dn_s, lt_ok (by omega) (by omega)]; omega
/-- loops that count down to l -/
theorem wp_dl2 {α : Type} {body : (Int32 → PH → Option (α × PH)) → Int32 → PH → Option (α × PH)} {Φ : α → PH → Prop} (l : Nat) (I : Nat → PH → Prop)
    (step : ∀ (rec : Int32 → PH → Option (α × PH)) (j : Nat) (s : PH), l ≤ j → I (j + 1) s → (∀ s', I j s' → wp (rec (nI j - nI 1) s') Φ) → wp (body rec (nI j) s) Φ)
    (exit : ∀ (rec : Int32 → PH → Option (α × PH)) (s : PH), I l s → wp (body rec (nI l - nI 1) s) Φ) :
    ∀ (n a : Nat) (s : PH), l ≤ a → I a s → a < n → wp (loo2 body n (nI a - nI 1) s) Φ := by
  intro n
  induction n with
  | zero => intro a s _ _ h; exact absurd h (Nat.not_lt_zero _)
  | succ n ih =>
    intro a s hla hI hn
    by_cases e : a = l
    · subst e; exact exit _ s hI
    · obtain ⟨j, rfl⟩ : ∃ j, a = j + 1 := ⟨a - 1, by omega⟩
      rw [dn_s]
      exact step _ j s (by omega) hI (fun s' hs => ih j s' (by omega) hs (by omega))
theorem rs_cut {f : Nat → Nat} {a lo hi t : Nat} (h1 : a ≤ lo) (h2 : lo ≤ t) (h3 : lo ≤ hi) (hl : ∀ m, a ≤ m → m < lo → f m = 0) (hh : ∀ m, hi < m → m ≤ t → f m = 0) : rs f a (t + 1 - a) = rs f lo (min hi t + 1 - lo) := by
  rw [show t + 1 - a = (lo - a) + (t + 1 - lo) by omega, rs_split, rs_zero (lo - a) (fun j hj => hl _ (by omega) (by omega)), Nat.zero_add, show a + (lo - a) = lo by omega]
  rw [show t + 1 - lo = (min hi t + 1 - lo) + (t - min hi t) by omega, rs_split, rs_zero (t - min hi t) (fun j hj => hh _ (by omega) (by omega)), Nat.add_zero]
theorem sL_letter {u : Nat → Nat} {W : Nat → Nat → Nat → Nat} {q : Nat → Nat} {i a m : Nat} (hq : q i < 10) (ham : a ≤ m) : sL u W q (i + 1) a (m + 1) = if u m = q i then sL u W q i a m else 0 := by
  show rs (fun m' => sL u W q i a m' * sy u W (q i) m' (m + 1)) a (m + 1 + 1 - a) = _
  have z : ∀ m', m' ≠ m → sL u W q i a m' * sy u W (q i) m' (m + 1) = 0 := by
    intro m' hm
    unfold sy
    rw [if_pos hq, if_neg (by omega), Nat.mul_zero]
  rw [rs_cut (lo := m) (hi := m) ham (by omega) (Nat.le_refl _) (fun m' _ h => z m' (by omega)) (fun m' h _ => z m' (by omega)), show min m (m + 1) + 1 - m = 1 by omega]
  show 0 + sL u W q i a (m + 0) * sy u W (q i) (m + 0) (m + 1) = _
  rw [Nat.zero_add, Nat.add_zero]
  unfold sy
  rw [if_pos hq]
  by_cases h : u m = q i
  · rw [if_pos ⟨rfl, h⟩, if_pos h, Nat.mul_one]
  · rw [if_neg (fun k => h k.2), if_neg h, Nat.mul_zero]
theorem sm_sR (f q : Nat → Nat) (n : Nat) : ∀ i, i ≤ n → sm f q i + sR f q (n - i) i = sm f q n
  | 0, _ => by
    rw [Nat.sub_zero, sR_sm]
    show 0 + _ = _
    rw [Nat.zero_add]
  | i + 1, h => by
    rw [← sm_sR f q n i (by omega), show n - i = (n - (i + 1)) + 1 by omega]
    show sm f q i + cs f (q i) + _ = sm f q i + (sR f q (n - (i + 1)) (i + 1) + cs f (q i))
    omega
theorem sm_mo (f q : Nat → Nat) : ∀ n i, i ≤ n → sm f q i ≤ sm f q n := by
  intro n i h
  have := sm_sR f q n i h
  omega
/-- the class's table, by an order of its entries -/
def CTB (t : Nat) (e : Nat → Nat → Nat) (a b : Nat) (s : PH) : Prop := ∀ c d, a ≤ c → c ≤ d → d ≤ b → s.1 (cId t 2) (9 * c + d) = nI (6 * e c d) ∧ 6 * e c d + 6 ≤ tLen t
def CTV (t : Nat) (e : Nat → Nat → Nat) (a b : Nat) (W : Nat → Nat → Nat → Nat) (s : PH) : Prop := ∀ y c d, y < 6 → a ≤ c → c ≤ d → d ≤ b → s.1 (cId t 3) (6 * e c d + y) = nI (W y c d)
theorem tLen_le (t : Nat) : tLen t ≤ 4686 := by
  unfold tLen
  by_cases h : t = 0
  · rw [if_pos h]; omega
  · rw [if_neg h]; omega
theorem count_t {t : Nat} {e : Nat → Nat → Nat} {a b : Nat} {W : Nat → Nat → Nat → Nat} {s : PH} (h2 : CTB t e a b s) (h3 : CTV t e a b W s) (hb : b ≤ 8) {y c d : Nat} (hy : y < 6) (h4 : a ≤ c) (h5 : c ≤ d) (h6 : d ≤ b) : fX1_count t (nI y) (nI c) (nI d) s = some (nI (W y c d), s) := by
  obtain ⟨e1, e2⟩ := h2 c d h4 h5 h6
  have := tLen_le t
  unfold fX1_count
  simp (disch := omega) only [nI_mulN, nI_add, ra_ok, Nat.mul_comm c 9]
  rw [e1]
  simp (disch := omega) only [nI_add, ra_ok]
  rw [h3 y c d hy h4 h5 h6]
theorem passNon_c {t : Nat} {e : Nat → Nat → Nat} {a b : Nat} {W : Nat → Nat → Nat → Nat} {A : Nat → Nat} {s : PH} (h2 : CTB t e a b s) (h3 : CTV t e a b W s) (hW : ∀ x c d, W x c d ≤ 1000000000) (hb : b ≤ 8) {y lo hi least most n : Nat} (hy : y < 6) (hlo : a ≤ lo) (hlh : lo ≤ hi) (hhb : hi ≤ b) (hle : lo ≤ least) (hmb : most ≤ b) (hlm : least ≤ most) (hA : ∀ m, lo ≤ m → m ≤ hi → s.1 (cId t 4) m = nI (sat (A m))) (hn : 20 ≤ n) : wp (fX1_passNonterminal n t (nI y) (nI lo) (nI hi) (nI least) (nI most) s) (fun _ t' => Fr (fun q => q = cId t 4) s t' ∧ ∀ to, least ≤ to → to ≤ most → t'.1 (cId t 4) to = nI (sat (rs (fun m => A m * W y m to) lo (min hi to + 1 - lo)))) := by
  unfold fX1_passNonterminal
  simp only [lt_def]
  have em : nI most = nI (most + 1) - nI 1 := dn_s.symm
  rw [em]
  refine wp_dl2 least (fun j t' => Fr (fun q => q = cId t 4) s t' ∧ j ≤ most + 1 ∧ (∀ m, lo ≤ m → m ≤ hi → m < j → t'.1 (cId t 4) m = nI (sat (A m))) ∧ ∀ to, j ≤ to → to ≤ most → t'.1 (cId t 4) to = nI (sat (rs (fun m => A m * W y m to) lo (min hi to + 1 - lo)))) ?_ ?_ n (most + 1) s (by omega) ⟨Fr.rf, Nat.le_refl _, fun m h1 h2 _ => hA m h1 h2, fun to h1 h2 => by omega⟩ (by omega)
  · rintro rec j t' hlj ⟨hf, hjm, hold, hnew⟩ ih
    have h2' : CTB t e a b t' := fun c d k1 k2 k3 => by rw [(hf (cId t 2) (by unfold cId; omega)).1]; exact h2 c d k1 k2 k3
    have h3' : CTV t e a b W t' := fun y c d k0 k1 k2 k3 => by rw [(hf (cId t 3) (by unfold cId; omega)).1]; exact h3 y c d k0 k1 k2 k3
    have fin : ∀ v : Nat, v ≤ 1000000000 → v = sat (rs (fun m => A m * W y m j) lo (min hi j + 1 - lo)) → wp (wa 9 (nI j) (rec (nI j + -1) (si t' (cId t 4) (nI j).toNatClampNeg (lN v).toInt32))) (fun _ t' => Fr (fun q => q = cId t 4) s t' ∧ ∀ to, least ≤ to → to ≤ most → t'.1 (cId t 4) to = nI (sat (rs (fun m => A m * W y m to) lo (min hi to + 1 - lo)))) := by
      intro v hv ev
      simp (disch := omega) only [wa_ok, cl_ok, lN_i, dn_m]
      refine ih _ ⟨hf.tr (Fr.si rfl), by omega, fun m k1 k2 k3 => ?_, fun to k1 k2 => ?_⟩
      · rw [si_q]
        dsimp only
        rw [if_neg (by omega)]
        exact hold m k1 k2 (by omega)
      · rw [si_q]
        dsimp only
        by_cases et : to = j
        · rw [if_pos et, ev, et]
        · rw [if_neg et]; exact hnew to (by omega) k2
    rw [if_neg (by rw [lt_ok (by omega) (by omega)]; omega), lN0]
    refine wp_for3 (min hi j + 1) (by omega) (fun m v t2 => lo ≤ m ∧ t2 = t' ∧ v = lN (sat (rs (fun m => A m * W y m j) lo (m - lo)))) ?_ ?_ n lo _ t' (by omega) ⟨Nat.le_refl _, rfl, by rw [Nat.sub_self]; rfl⟩ (by omega)
    · rintro rec2 m v t2 hm ⟨hlm', rfl, rfl⟩ ih2
      have hsm := sat_le (rs (fun m => A m * W y m j) lo (m - lo))
      have hsa := sat_le (A m)
      have hmul := mul_b hsa (hW y m j)
      have rm := hold m hlm' (by omega) (by omega)
      have es : sat (rs (fun m => A m * W y m j) lo (m + 1 - lo)) = sat (sat (rs (fun m => A m * W y m j) lo (m - lo)) + sat (A m) * W y m j) := by
        rw [← sat_id (hW y m j), sat_fma, show m + 1 - lo = (m - lo) + 1 by omega]
        show sat (rs _ lo (m - lo) + A (lo + (m - lo)) * W y (lo + (m - lo)) j) = _
        rw [show lo + (m - lo) = m by omega]
      simp (disch := omega) only [lt_ok, if_neg, jn_def, ra_ok, rm, eq0_ok, nI_add]
      by_cases h0 : sat (A m) = 0
      · rw [if_pos h0]
        refine ih2 _ _ ⟨by omega, rfl, ?_⟩
        rw [es, h0, Nat.zero_mul, Nat.add_zero, sat_sat]
      · rw [if_neg h0, count_t h2' h3' hb hy (by omega) (by omega) (by omega), bd_ok]
        have hwl := hW y m j
        simp (disch := omega) only [nIl_ok, lN_mul, lN_add, minL]
        exact ih2 _ _ ⟨by omega, rfl, by rw [es]⟩
    · rintro rec2 v t2 ⟨hlm', rfl, rfl⟩
      have hv := sat_le (rs (fun m => A m * W y m j) lo (min hi j + 1 - lo))
      simp (disch := omega) only [lt_ok, jn_def]
      by_cases c1 : hi < min hi j + 1
      · rw [if_pos c1]
        exact fin _ hv rfl
      · rw [if_neg c1, if_pos (by omega)]
        exact fin _ hv rfl
  · rintro rec t' ⟨hf, hjm, hold, hnew⟩
    rw [if_pos (dn_lt (by omega))]
    exact wp_some ⟨hf, hnew⟩
theorem passLet_c {t : Nat} {u A : Nat → Nat} {s : PH} {y lo sk n : Nat} (hy : y < 10) (hlo : lo + sk < 8) (hu : ∀ m, lo ≤ m → m ≤ lo + sk → s.1 (cId t 1) m = nI (u m) ∧ u m < 5) (hA : ∀ m, lo ≤ m → m ≤ lo + sk → s.1 (cId t 4) m = nI (A m)) (hn : 20 ≤ n) : wp (fX1_passLetter n t (nI y) (nI lo) (nI sk) s) (fun _ t' => Fr (fun q => q = cId t 4) s t' ∧ ∀ m, lo ≤ m → m ≤ lo + sk → t'.1 (cId t 4) (m + 1) = nI (if u m = y then A m else 0)) := by
  unfold fX1_passLetter
  simp only [lt_def]
  have em : nI lo + nI sk = nI (lo + sk + 1) - nI 1 := by rw [nI_add]; exact dn_s.symm
  rw [em]
  refine wp_dl2 lo (fun j t' => Fr (fun q => q = cId t 4) s t' ∧ j ≤ lo + sk + 1 ∧ (∀ m, lo ≤ m → m < j → t'.1 (cId t 4) m = nI (A m)) ∧ ∀ m, j ≤ m → m ≤ lo + sk → t'.1 (cId t 4) (m + 1) = nI (if u m = y then A m else 0)) ?_ ?_ n (lo + sk + 1) s (by omega) ⟨Fr.rf, Nat.le_refl _, fun m h1 h2 => hA m h1 (by omega), fun m h1 h2 => by omega⟩ (by omega)
  · rintro rec j t' hlj ⟨hf, hjm, hold, hnew⟩ ih
    obtain ⟨u1, u2⟩ := hu j hlj (by omega)
    have ru : t'.1 (cId t 1) j = nI (u j) := by rw [(hf (cId t 1) (by unfold cId; omega)).1]; exact u1
    have rA := hold j hlj (by omega)
    rw [if_neg (by rw [lt_ok (by omega) (by omega)]; omega)]
    simp (disch := omega) only [ra_ok, ru, rA, jn_def, eq_ok, nI_add, wa_ok, cl_ok, dn_m]
    have fin : ∀ v, v = (if u j = y then A j else 0) → wp (rec (nI j - nI 1) (si t' (cId t 4) (j + 1) (nI v))) (fun _ t' => Fr (fun q => q = cId t 4) s t' ∧ ∀ m, lo ≤ m → m ≤ lo + sk → t'.1 (cId t 4) (m + 1) = nI (if u m = y then A m else 0)) := by
      intro v ev
      refine ih _ ⟨hf.tr (Fr.si rfl), by omega, fun m k1 k2 => ?_, fun m k1 k2 => ?_⟩
      · rw [si_q]
        dsimp only
        rw [if_neg (by omega)]
        exact hold m k1 (by omega)
      · rw [si_q]
        dsimp only
        by_cases et : m = j
        · rw [if_pos (by omega), ev, et]
        · rw [if_neg (by omega)]; exact hnew m (by omega) k2
    by_cases h : u j = y
    · rw [if_pos h]; exact fin _ (by rw [if_pos h])
    · rw [if_neg h]; exact fin 0 (by rw [if_neg h])
  · rintro rec t' ⟨hf, hjm, hold, hnew⟩
    rw [if_pos (dn_lt (by omega))]
    exact wp_some ⟨hf, hnew⟩
theorem tails_c {G : Gr} {s : PH} (w : WG G) (h9 : TLS G G.1 (s.1 9)) {p i : Nat} (hp : p < G.1) (hi : i ≤ G.2.2.1 p) : fX9_tail (nI p) (nI i) s = some (nI (min 1000000 (sR (fw G 1000000) (G.2.2.2 p) (G.2.2.1 p - i) i)), s) := by
  have h16 := w.1.2
  have h5 := (w.2.1 p hp).2
  rw [tail_c (by omega) (by omega), h9 p hp i hi, tl_sR]
theorem waysOf_c {G : Gr} {g t : Nat} {e : Nat → Nat → Nat} {a b : Nat} {W : Nat → Nat → Nat → Nat} {u : Nat → Nat} {s : PH} (hG : CG G g s) (w : WG G) (h9 : TLS G G.1 (s.1 9)) (h2 : CTB t e a b s) (h3 : CTV t e a b W s) (hW : ∀ x c d, W x c d ≤ 1000000000) (hF : FP (fw G 1000000) W) (hu : ∀ m, a ≤ m → m < b → s.1 (cId t 1) m = nI (u m) ∧ u m < 5) (hab : a ≤ b) (hb : b ≤ 8) {p n : Nat} (hp : p < G.1) (hg : g < 6) (hsm : sm (fw G 1000000) (G.2.2.2 p) (G.2.2.1 p) ≤ b - a) (hn : 20 ≤ n) : wp (fX1_waysOf n t g (nI p) (nI a) (nI b) s) (fun r t' => Fr (fun q => q = cId t 4) s t' ∧ r = nI (sat (sL u W (G.2.2.2 p) (G.2.2.1 p) a b))) := by
  have h5 := (w.2.1 p hp).2
  obtain ⟨N, hN⟩ : ∃ N, N = G.2.2.1 p := ⟨_, rfl⟩
  obtain ⟨q, hq⟩ : ∃ q, q = G.2.2.2 p := ⟨_, rfl⟩
  obtain ⟨f, hf0⟩ : ∃ f, f = fw G 1000000 := ⟨_, rfl⟩
  obtain ⟨sk, hsk⟩ : ∃ sk, sk = b - a - sm f q N := ⟨_, rfl⟩
  rw [← hN, ← hq, ← hf0] at hsm
  rw [← hf0] at hF
  rw [← hN] at h5
  have tl0 : ∀ (t' : PH), t'.1 9 = s.1 9 → ∀ i, i ≤ N → fX9_tail (nI p) (nI i) t' = some (nI (sm f q N - sm f q i), t') := by
    intro t' e9 i hi
    have := sm_sR f q N i hi
    rw [tails_c w (by rw [e9]; exact h9) hp (by rw [← hN]; exact hi), ← hN, ← hq, ← hf0, Nat.min_eq_right (by omega)]
    congr 3
    omega
  have sm00 : sm f q 0 = 0 := rfl
  unfold fX1_waysOf
  simp (disch := omega) only [tl0 s rfl 0 (Nat.zero_le _), bd_ok, lt_def, nI_subN]
  have ex : nI (b - a - (sm f q N - sm f q 0)) = nI sk := by rw [sm00, Nat.sub_zero, hsk]
  rw [ex, nI_add]
  refine wp_for2 (a + sk + 1) (by omega) (fun j t' => a ≤ j ∧ Fr (fun q => q = cId t 4) s t' ∧ ∀ m, a ≤ m → m < j → t'.1 (cId t 4) m = nI (sat (sL u W q 0 a m))) ?_ ?_ n a s (by omega) ⟨Nat.le_refl _, Fr.rf, fun m k1 k2 => by omega⟩ (by omega)
  · rintro rec j t' hj ⟨haj, hf, hw⟩ ih
    rw [if_neg (by rw [lt_ok (by omega) (by omega)]; omega)]
    simp (disch := omega) only [jn_def, eq_ok, wa_ok, cl_ok, nI_add]
    have fin : ∀ v, v = sat (sL u W q 0 a j) → wp (rec (nI (j + 1)) (si t' (cId t 4) j (nI v))) (fun r t' => Fr (fun q => q = cId t 4) s t' ∧ r = nI (sat (sL u W (G.2.2.2 p) (G.2.2.1 p) a b))) := by
      intro v ev
      refine ih _ ⟨by omega, hf.tr (Fr.si rfl), fun m k1 k2 => ?_⟩
      rw [si_q]
      dsimp only
      by_cases em : m = j
      · rw [if_pos em, ev, em]
      · rw [if_neg em]; exact hw m k1 (by omega)
    by_cases ej : j = a
    · rw [if_pos ej]
      refine fin 1 ?_
      show 1 = sat (if a = j then 1 else 0)
      rw [if_pos ej.symm]
      rfl
    · rw [if_neg ej]
      refine fin 0 ?_
      show 0 = sat (if a = j then 1 else 0)
      rw [if_neg (fun h => ej h.symm)]
      rfl
  · rintro rec t' ⟨haj, hf, hw⟩
    have hG' := hG.fr hf (fun k hk => by unfold gId cId; omega)
    rw [if_pos (by rw [lt_ok (by omega) (by omega)]; omega), length_c hG' w hp, bd_ok, ← hN]
    refine wp_for3 N (by omega) (fun i v t' => Fr (fun q => q = cId t 4) s t' ∧ v = nI (a + sm f q i) ∧ ∀ m, a + sm f q i ≤ m → m ≤ a + sm f q i + sk → (i < N ∨ m = b) → t'.1 (cId t 4) m = nI (sat (sL u W q i a m))) ?_ ?_ n 0 _ t' (by omega) ⟨hf, rfl, fun m k1 k2 _ => hw m k1 (by rw [sm00] at k2; omega)⟩ (by omega)
    · rintro rec2 i v t2 hi ⟨hf2, rfl, hw2⟩ ih2
      have hG2 := hG.fr hf2 (fun k hk => by unfold gId cId; omega)
      have hiN : i < G.2.2.1 p := by rw [← hN]; exact hi
      have hy := sy16 w hp hiN
      have es : sm f q (i + 1) = sm f q i + cs f (q i) := rfl
      have ms1 := sm_mo f q N i (by omega)
      have ms2 := sm_mo f q N (i + 1) (by omega)
      have e9 : t2.1 9 = s.1 9 := (hf2 9 (by unfold cId; omega)).1
      have eq1 : G.2.2.2 p i = q i := by rw [hq]
      rw [eq1] at hy
      rw [if_neg (by rw [le_ok (by omega) (by omega)]; omega), symbolAt_c hG2 w hp hiN, bd_ok, eq1]
      simp (disch := omega) only [tl0 t2 e9 i (by omega), bd_ok, nI_add, tl0 t2 e9 (i + 1) (by omega), nI_subN, isLetter_c, jn_def, bI_0, decide_eq_false_iff_not]
      have en : a + sm f q i + (sm f q N - sm f q i) - (sm f q N - sm f q (i + 1)) = a + sm f q (i + 1) := by omega
      rw [en]
      by_cases h10 : q i < 10
      · rw [if_neg (by omega)]
        have hcs : cs f (q i) = 1 := by unfold cs; rw [if_pos h10]
        refine wp_call (passLet_c (t := t) (u := u) (A := fun m => sat (sL u W q i a m)) (y := q i) (lo := a + sm f q i) (sk := sk) h10 (by omega) (fun m k1 k2 => ?_) (fun m k1 k2 => hw2 m k1 k2 (Or.inl hi)) hn) (fun _ t3 ⟨hf3, h3'⟩ => ?_)
        · rw [(hf2 (cId t 1) (by unfold cId; omega)).1]; exact hu m (by omega) (by omega)
        · refine ih2 _ _ ⟨hf2.tr hf3, rfl, fun m k1 k2 _ => ?_⟩
          obtain ⟨m0, rfl⟩ : ∃ m0, m = m0 + 1 := ⟨m - 1, by omega⟩
          rw [h3' m0 (by omega) (by omega), sL_letter h10 (by omega)]
          by_cases hum : u m0 = q i
          · rw [if_pos hum, if_pos hum]
          · rw [if_neg hum, if_neg hum]; rfl
      · rw [if_pos h10]
        have hcs : cs f (q i) = f (q i - 10) := by unfold cs; rw [if_neg h10]
        have h2' : CTB t e a b t2 := fun c d k1 k2 k3 => by rw [(hf2 (cId t 2) (by unfold cId; omega)).1]; exact h2 c d k1 k2 k3
        have h3' : CTV t e a b W t2 := fun y c d k0 k1 k2 k3 => by rw [(hf2 (cId t 3) (by unfold cId; omega)).1]; exact h3 y c d k0 k1 k2 k3
        have eL : ∀ to, a + sm f q (i + 1) ≤ to → to ≤ a + sm f q (i + 1) + sk → rs (fun m => sL u W q i a m * W (q i - 10) m to) (a + sm f q i) (min (a + sm f q i + sk) to + 1 - (a + sm f q i)) = sL u W q (i + 1) a to := by
          intro to k1 k2
          show _ = rs (fun m => sL u W q i a m * sy u W (q i) m to) a (to + 1 - a)
          have esy : (fun m => sL u W q i a m * sy u W (q i) m to) = fun m => sL u W q i a m * W (q i - 10) m to := by
            funext m
            unfold sy
            rw [if_neg h10]
          rw [esy]
          refine (rs_cut (by omega) (by omega) (by omega) (fun m k3 k4 => ?_) (fun m k3 k4 => ?_)).symm
          · have : sL u W q i a m = 0 := by
              refine Classical.byContradiction (fun hne => ?_)
              have := (sL_F hF i m hne).2
              omega
            rw [this, Nat.zero_mul]
          · have : W (q i - 10) m to = 0 := by
              refine Classical.byContradiction (fun hne => ?_)
              have := hF _ _ _ k4 hne
              omega
            rw [this, Nat.mul_zero]
        have call : ∀ least, (least = b ∧ i + 1 = N) ∨ least = a + sm f q (i + 1) → wp (bd (fX1_passNonterminal n t (nI (q i - 10)) (nI (a + sm f q i)) (nI (a + sm f q i + sk)) (nI least) (nI (a + sm f q (i + 1) + sk)) t2) fun _ s36 => rec2 (nI (a + sm f q (i + 1))) (nI (i + 1)) s36) (fun r t' => Fr (fun q => q = cId t 4) s t' ∧ r = nI (sat (sL u W (G.2.2.2 p) N a b))) := by
          intro least hle
          have e1 : i + 1 = N → a + sm f q (i + 1) + sk = b := by
            intro h; rw [h]; omega
          refine wp_call (passNon_c (A := fun m => sL u W q i a m) h2' h3' hW hb (y := q i - 10) (lo := a + sm f q i) (hi := a + sm f q i + sk) (least := least) (most := a + sm f q (i + 1) + sk) (by omega) (by omega) (by omega) (by omega) (by omega) (by omega) (by omega) (fun m k1 k2 => hw2 m k1 k2 (Or.inl hi)) hn) (fun _ t3 ⟨hf3, hp3⟩ => ?_)
          refine ih2 _ _ ⟨hf2.tr hf3, rfl, fun m k1 k2 k3 => ?_⟩
          rw [hp3 m (by omega) k2, eL m k1 k2]
        simp (disch := omega) only [eq_ok]
        by_cases hl : i = N - 1
        · rw [if_pos hl]; exact call b (Or.inl ⟨rfl, by omega⟩)
        · rw [if_neg hl]; exact call _ (Or.inr rfl)
    · rintro rec2 v t2 ⟨hf2, rfl, hw2⟩
      rw [if_pos (by rw [le_ok (by omega) (by omega)]; exact Nat.le_refl _)]
      simp (disch := omega) only [ra_ok]
      rw [hw2 b (by omega) (by omega) (Or.inr rfl), hN, hq]
      exact wp_some ⟨hf2, rfl⟩
