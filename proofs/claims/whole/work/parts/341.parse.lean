/-! ===== BOTH: parsing ===== -/
/-- the beginning of a word, by at most three letters -/
def bgl (f : Nat → Nat) : Nat → List Nat
  | 0 => []
  | 1 => [f 0]
  | 2 => [f 0, f 1]
  | _ => [f 0, f 1, f 2]
theorem bgl_ok {f : Nat → Nat} {m : Nat} (hm : m ≤ 3) (hf : ∀ i, i < m → f i < 5) : VL (bgl f m) ∧ (bgl f m).length = m ∧ enc (bgl f m) = cod f m := by
  have : m = 0 ∨ m = 1 ∨ m = 2 ∨ m = 3 := by omega
  rcases this with rfl | rfl | rfl | rfl
  · exact ⟨VL.nil, rfl, rfl⟩
  · refine ⟨VL.one (hf 0 (by omega)), rfl, ?_⟩
    show f 0 + 1 = 6 * 0 + f 0 + 1
    omega
  · refine ⟨⟨by show 2 ≤ 3; omega, fun x hx => ?_⟩, rfl, ?_⟩
    · have h0 := hf 0 (by omega)
      have h1 := hf 1 (by omega)
      have hx' : x ∈ [f 0, f 1] := hx
      simp at hx'
      omega
    · show 6 * (f 0 + 1) + (f 1 + 1) = 6 * (6 * 0 + f 0 + 1) + f 1 + 1
      omega
  · refine ⟨⟨by show 3 ≤ 3; omega, fun x hx => ?_⟩, rfl, ?_⟩
    · have h0 := hf 0 (by omega)
      have h1 := hf 1 (by omega)
      have h2 := hf 2 (by omega)
      have hx' : x ∈ [f 0, f 1, f 2] := hx
      simp at hx'
      omega
    · show 36 * (f 0 + 1) + 6 * (f 1 + 1) + (f 2 + 1) = 6 * (6 * (6 * 0 + f 0 + 1) + f 1 + 1) + f 2 + 1
      omega
/-- the first production that a beginning leads to -/
def cnd (G : Gr) (k : Nat) (l : List Nat) (x p : Nat) : Prop := G.2.1 p = x ∧ ctS k (AG G p) l
noncomputable def chP (G : Gr) (k : Nat) (l : List Nat) (x : Nat) : Nat → Nat → Option Nat
  | 0, _ => none
  | n + 1, p => if pB (cnd G k l x p) = true then some p else chP G k l x n (p + 1)
theorem chP_s {G : Gr} {k : Nat} {l : List Nat} {x p : Nat} (hp : cnd G k l x p) : ∀ n a, a ≤ p → p < a + n → (∀ q, a ≤ q → q < p → ¬ cnd G k l x q) → chP G k l x n a = some p
  | 0, a, h1, h2, _ => by omega
  | n + 1, a, h1, h2, h3 => by
    unfold chP
    by_cases e : a = p
    · rw [e, if_pos (pB_t.mpr hp)]
    · rw [if_neg (fun h => h3 a (Nat.le_refl _) (by omega) (pB_t.mp h))]
      exact chP_s hp n (a + 1) (by omega) (by omega) (fun q h4 h5 => h3 q (by omega) h5)
theorem chP_n {G : Gr} {k : Nat} {l : List Nat} {x : Nat} : ∀ n a, (∀ q, a ≤ q → q < a + n → ¬ cnd G k l x q) → chP G k l x n a = none
  | 0, _, _ => rfl
  | n + 1, a, h => by
    unfold chP
    rw [if_neg (fun h2 => h a (Nat.le_refl _) (by omega) (pB_t.mp h2))]
    exact chP_n n (a + 1) (fun q h4 h5 => h q (by omega) (by omega))
noncomputable def cho (G : Gr) (k : Nat) (l : List Nat) (x : Nat) : Option Nat := chP G k l x G.1 0
/-- what choose() answers -/
def CR (o : Option Nat) (m : Nat) (r : Int32) : Prop := (o = none ∧ r = -9) ∨ ∃ p, o = some p ∧ p < m ∧ r = nI p
/-- the machine: stack, letters gone, choices -/
abbrev Mc : Type := List Nat × Nat × List Nat
noncomputable def nxt (G : Gr) (u : Nat → Nat) (L : Nat) (D : Nat → Nat) : Mc → Option Mc
  | ([], _, _) => none
  | (y :: st, fr, cs) => if y < 10 then (if fr < L ∧ u fr = y then some (st, fr + 1, cs) else none) else if cs.length < 60 then (match cho G (D (y - 10)) (bgl (fun i => u (fr + i)) (min (D (y - 10)) (L - fr))) (y - 10) with | none => none | some p => some (rh G p ++ st, fr, p :: cs)) else none
def itr (f : Mc → Option Mc) (a : Mc) : Nat → Option Mc
  | 0 => some a
  | t + 1 => (itr f a t).bind f
theorem itr_end {f : Mc → Option Mc} {a b : Mc} {k : Nat} (h : itr f a k = some b) (hb : f b = none) : ∀ d, itr f a (k + (d + 1)) = none
  | 0 => by
    show (itr f a k).bind f = none
    rw [h]
    exact hb
  | d + 1 => by
    show (itr f a (k + (d + 1))).bind f = none
    rw [itr_end h hb d]
    rfl
theorem itr_uniq {f : Mc → Option Mc} {a b c : Mc} {k m : Nat} (h : itr f a k = some b) (hb : f b = none) (h' : itr f a m = some c) (hc : f c = none) : b = c := by
  rcases Nat.lt_trichotomy k m with h1 | h1 | h1
  · have := itr_end h hb (m - k - 1)
    rw [show k + (m - k - 1 + 1) = m by omega, h'] at this
    cases this
  · subst h1
    rw [h] at h'
    exact Option.some.inj h'
  · have := itr_end h' hc (k - m - 1)
    rw [show m + (k - m - 1 + 1) = k by omega, h] at this
    cases this
theorem itr_s {f : Mc → Option Mc} {a b c : Mc} {k : Nat} (h : itr f a k = some b) (hb : f b = some c) : itr f a (k + 1) = some c := by
  show (itr f a k).bind f = some c
  rw [h]
  exact hb
/-- what comes of it -/
def RES (L : Nat) (m : Mc) (r : Int32) : Prop := (m.1 = [] ∧ m.2.1 = L ∧ r = nI m.2.2.length) ∨ (¬ (m.1 = [] ∧ m.2.1 = L) ∧ r = -10 - nI m.2.1)
theorem RES.uniq {L : Nat} {m : Mc} {r r' : Int32} (h : RES L m r) (h' : RES L m r') : r = r' := by
  rcases h with ⟨a, b, rfl⟩ | ⟨a, rfl⟩
  · rcases h' with ⟨_, _, rfl⟩ | ⟨a', _⟩
    · rfl
    · exact absurd ⟨a, b⟩ a'
  · rcases h' with ⟨a', b', _⟩ | ⟨_, rfl⟩
    · exact absurd ⟨a', b'⟩ a
    · rfl
/-- a row that holds a list, its last one first -/
def SK1 (f : Nat → Int32) : List Nat → Prop
  | [] => True
  | y :: st => f st.length = nI y ∧ SK1 f st
theorem SK1.cg {f g : Nat → Int32} : ∀ l : List Nat, (∀ i, i < l.length → g i = f i) → SK1 f l → SK1 g l
  | [], _, _ => trivial
  | y :: st, h, hs => by
    have el : (y :: st).length = st.length + 1 := rfl
    rw [el] at h
    exact ⟨by rw [h _ (by omega)]; exact hs.1, SK1.cg st (fun i hi => h i (by omega)) hs.2⟩
theorem SK1.eq {f g : Nat → Int32} : ∀ l : List Nat, SK1 f l → SK1 g l → ∀ i, i < l.length → f i = g i
  | [], _, _, i, hi => absurd hi (Nat.not_lt_zero i)
  | y :: st, h, h', i, hi => by
    have el : (y :: st).length = st.length + 1 := rfl
    rw [el] at hi
    by_cases e : i = st.length
    · rw [e, h.1, h'.1]
    · exact SK1.eq st h.2 h'.2 i (by omega)
theorem SK1.push {f : Nat → Int32} {l : List Nat} {y : Nat} (h : SK1 f l) : SK1 (fun b => if b = l.length then nI y else f b) (y :: l) := by
  refine ⟨by dsimp only; rw [if_pos rfl], SK1.cg l (fun i hi => ?_) h⟩
  rw [if_neg (by omega)]
def S16y (st : List Nat) : Prop := ∀ y, y ∈ st → y < 16
theorem S16y.rh {G : Gr} (w : WG G) {p : Nat} {st : List Nat} (hp : p < G.1) (h : S16y st) : S16y (rh G p ++ st) := by
  intro y hy
  rcases List.mem_append.mp hy with h1 | h1
  · obtain ⟨j, _, h3, rfl⟩ := rhs_mem _ _ h1
    exact sy16 w hp (by omega)
  · exact h y h1
/-- the depths, where all are known -/
def DEP (D : Nat → Nat) (s : PH) : Prop := ∀ x, x < 6 → D x < 4 ∧ s.1 19 x = nI (D x)
theorem dpF_ne {G : Gr} {f : Nat → Int32} : ∀ m x v, dpF G f m x v ≠ -9 → ∀ y, x ≤ y → y < x + m → dfb G y = true → f y ≠ -9
  | 0, x, _, _, y, h1, h2, _ => by omega
  | m + 1, x, v, h, y, h1, h2, hd => by
    unfold dpF at h
    by_cases e : y = x
    · subst e
      rw [if_pos hd] at h
      intro h9
      rw [if_pos h9] at h
      exact h rfl
    · by_cases hx : dfb G x = true
      · rw [if_pos hx] at h
        by_cases h9 : f x = -9
        · rw [if_pos h9] at h
          exact absurd rfl h
        · rw [if_neg h9] at h
          exact dpF_ne m (x + 1) _ h y (by omega) (by omega) hd
      · rw [if_neg hx] at h
        exact dpF_ne m (x + 1) _ h y (by omega) (by omega) hd
theorem DEP.of {G : Gr} {s : PH} (hX : XG G s) (h : dpF G (s.1 19) 6 0 (nI 0) ≠ -9) : ∃ D, DEP D s := by
  have key : ∀ x, x < 6 → ∃ k, k < 4 ∧ s.1 19 x = nI k := by
    intro x hx
    have hdp := (hX.2.2.2.2.2.2.2 x hx).1
    rcases hdp with ⟨k, hk, e, _⟩ | ⟨e, hall⟩
    · exact ⟨k, hk, e⟩
    · exfalso
      cases hd : dfb G x with
      | true => exact dpF_ne 6 0 _ h x (Nat.zero_le _) (by omega) hd e
      | false =>
        refine hall 0 (by decide) (fun p q hpq _ => ?_)
        have : dfb G x = true := dfb_iff.mpr ⟨q, hpq.2.1, hpq.2.2.2⟩
        rw [hd] at this
        cases this
  refine ⟨fun x => (s.1 19 x).toNatClampNeg, fun x hx => ?_⟩
  obtain ⟨k, hk, e⟩ := key x hx
  dsimp only
  rw [e, cl_ok (by omega)]
  exact ⟨hk, rfl⟩
/-! the class -/
theorem beginning_c {L : Nat} {tx : Nat → Nat} {s : PH} (hT : TX L tx s) (hI : INP L tx) {fr k n : Nat} (hf : fr ≤ L) (hk : k < 4) (hn : 20 ≤ n) : fX6_beginning n (nI fr) (nI k) s = some (nI (cod (fun i => uT tx (fr + i)) (min k (L - fr))), s) := by
  have hL := hI.1
  obtain ⟨_, h11, _, hx⟩ := hT
  have key : wp (fX6_beginning n (nI fr) (nI k) s) (fun r t => t = s ∧ r = nI (cod (fun i => uT tx (fr + i)) (min k (L - fr)))) := by
    unfold fX6_beginning
    simp only [lt_def]
    refine wp_for3 (fr + min k (L - fr)) (by omega) (fun j v t => fr ≤ j ∧ t = s ∧ v = nI (cod (fun i => uT tx (fr + i)) (j - fr))) ?_ ?_ n fr _ s (by omega) ⟨Nat.le_refl _, rfl, by rw [Nat.sub_self]; rfl⟩ (by omega)
    · rintro rec j v t hj ⟨hfj, rfl, rfl⟩ ih
      have x1 := (hx j (by omega)).1
      have x2 := hI.2 j (by omega)
      unfold fX8_size fX8_letterAt fX8_at
      simp (disch := omega) only [nI_add, le_ok, if_neg, bd_ok, h11, lt0_ok, if_false, ra_ok, x1, nI_subN, nI_mulN]
      refine ih _ _ ⟨by omega, rfl, ?_⟩
      rw [show j + 1 - fr = (j - fr) + 1 by omega]
      show _ = nI (6 * cod (fun i => uT tx (fr + i)) (j - fr) + uT tx (fr + (j - fr)) + 1)
      rw [show fr + (j - fr) = j by omega]
      rfl
    · rintro rec v t ⟨hfj, rfl, rfl⟩
      unfold fX8_size
      simp (disch := omega) only [nI_add, le_ok, bd_ok, h11]
      rw [show fr + min k (L - fr) - fr = min k (L - fr) by omega]
      by_cases h : fr + k ≤ fr + min k (L - fr)
      · rw [if_pos h]; exact wp_some ⟨rfl, rfl⟩
      · rw [if_neg h, if_pos (by omega)]; exact wp_some ⟨rfl, rfl⟩
  obtain ⟨r, t, e, rfl, rfl⟩ := key
  exact e
theorem choose_c {G : Gr} {s : PH} (hX : XG G s) (w : WG G) {x k n : Nat} {l : List Nat} (hx : x < 6) (hk : k < 4) (hl : VL l) (hlk : l.length ≤ k) (hn : 20 ≤ n) : ∃ r, fX6_choose n (s.2.2 0 8) (nI x) (nI k) (nI (enc l)) s = some (r, s) ∧ CR (cho G k l x) G.1 r := by
  have h16 := w.1.2
  obtain ⟨B, E, eB, eE, hr⟩ := begin_c hX.2.1 hx
  obtain ⟨hBE, hE1, hrng⟩ := id hr
  have key : wp (fX6_choose n (s.2.2 0 8) (nI x) (nI k) (nI (enc l)) s) (fun r t => t = s ∧ CR (cho G k l x) G.1 r) := by
    unfold fX6_choose
    rw [eB, bd_ok, lt_def]
    refine wp_for2 E (by omega) (fun p t => B ≤ p ∧ t = s ∧ ∀ q, q < p → ¬ cnd G k l x q) ?_ ?_ n B s hBE ⟨Nat.le_refl _, rfl, fun q hq hc => ?_⟩ (by omega)
    · rintro rec p t hp ⟨hBp, rfl, hno⟩ ih
      have hp1 : p < G.1 := by omega
      have hpl : G.2.1 p = x := (hrng p hp1).mpr ⟨hBp, hp⟩
      obtain ⟨r, e1, e2⟩ := has_c (hX.2.2.2.2.2.2.1 p hp1) hl hk hlk
      unfold fX3_aheadOf
      rw [eE, bd_ok, if_neg (by rw [le_ok (by omega) (by omega)]; omega)]
      simp (disch := omega) only [ra_ok, bd_ok, e1, lt_def, nI_add]
      by_cases h0 : r = 0
      · rw [if_pos h0]
        refine ih _ ⟨by omega, rfl, fun q hq hc => ?_⟩
        by_cases e : q = p
        · rw [e] at hc; exact e2.eq h0 hc.2
        · exact hno q (by omega) hc
      · rw [if_neg h0]
        exact wp_some ⟨rfl, Or.inr ⟨p, chP_s ⟨hpl, e2.ne h0⟩ _ _ (Nat.zero_le _) (by omega) (fun q _ h => hno q h), hp1, rfl⟩⟩
    · rintro rec t ⟨hBp, rfl, hno⟩
      rw [eE, bd_ok, if_pos (by rw [le_ok (by omega) (by omega)]; exact Nat.le_refl _)]
      refine wp_some ⟨rfl, Or.inl ⟨chP_n _ _ (fun q _ hq hc => ?_), rfl⟩⟩
      by_cases e : q < E
      · exact hno q e hc
      · have := (hrng q (by omega)).mp hc.1
        omega
    · have := (hrng q (by omega)).mp hc.1
      omega
  obtain ⟨r, t, e, rfl, hp⟩ := key
  exact ⟨r, e, hp⟩
def isPr (q : Nat) : Prop := q = 21 ∨ q = 22 ∨ q = 23
theorem take_c {G : Gr} {g : Nat} {s : PH} (hG : CG G g s) (hg : g < 6) (w : WG G) {p n : Nat} {st cs : List Nat} (hp : p < G.1) (hc : cs.length < 60) (hl : st.length + 5 ≤ 301) (h2 : s.1 21 2 = nI st.length) (h3 : s.1 21 3 = nI cs.length) (hS : SK1 (s.1 22) st) (hC : SK1 (s.1 23) cs) (hn : 20 ≤ n) : wp (fX6_take n g (nI p) s) (fun _ t => Fr isPr s t ∧ t.1 21 2 = nI (rh G p ++ st).length ∧ t.1 21 3 = nI (p :: cs).length ∧ SK1 (t.1 22) (rh G p ++ st) ∧ SK1 (t.1 23) (p :: cs)) := by
  have h5 := (w.2.1 p hp).2
  obtain ⟨N, hN⟩ : ∃ N, N = G.2.2.1 p := ⟨_, rfl⟩
  rw [← hN] at h5
  unfold fX6_take
  rw [h3, wa_ok _ hc (by decide), cl_ok (by omega), lt_def, lt_def]
  have e3 : (si s 23 cs.length (nI p)).1 21 3 = nI cs.length := by rw [si_r _ _ _ _ (by decide)]; exact h3
  rw [e3, nI_add]
  obtain ⟨s2, hs2⟩ : ∃ s2, s2 = si (si s 23 cs.length (nI p)) 21 3 (nI (cs.length + 1)) := ⟨_, rfl⟩
  rw [← hs2]
  have f2 : Fr isPr s s2 := by rw [hs2]; exact (Fr.si (Or.inr (Or.inr rfl))).tr (Fr.si (Or.inl rfl))
  have hG2 := hG.fr f2 (fun k hk => by unfold isPr gId; omega)
  rw [length_c hG2 w hp, bd_ok, ← hN, lt_def]
  refine wp_dn2 (fun j t => j ≤ N ∧ Fr isPr s t ∧ t.1 21 2 = nI (rhs G p (N - j) j ++ st).length ∧ t.1 21 3 = nI (cs.length + 1) ∧ t.1 23 = s2.1 23 ∧ SK1 (t.1 22) (rhs G p (N - j) j ++ st)) ?_ ?_ n N s2 ⟨Nat.le_refl _, f2, ?_, ?_, rfl, ?_⟩ (by omega)
  · rintro rec j t ⟨hjN, hf, t2, t3, t23, hSt⟩ ih
    have hG' := hG.fr hf (fun k hk => by unfold isPr gId; omega)
    have hj : j < G.2.2.1 p := by omega
    have hlen : (rhs G p (N - (j + 1)) (j + 1) ++ st).length = N - (j + 1) + st.length := by rw [List.length_append, rhs_len]
    obtain ⟨l0, hl0⟩ : ∃ l0, l0 = (rhs G p (N - (j + 1)) (j + 1) ++ st).length := ⟨_, rfl⟩
    rw [← hl0] at t2 hlen
    rw [if_neg (nlt0 (by omega)), t2, if_neg (by rw [le_ok (by decide) (by omega)]; omega), symbolAt_c hG' w hp hj, bd_ok, wa_ok _ (by omega) (by decide), cl_ok (by omega), lt_def, lt_def, lt_def, dn_m]
    have e2 : (si t 22 l0 (nI (G.2.2.2 p j))).1 21 2 = nI l0 := by rw [si_r _ _ _ _ (by decide)]; exact t2
    rw [e2, nI_add]
    have eL : rhs G p (N - j) j ++ st = G.2.2.2 p j :: (rhs G p (N - (j + 1)) (j + 1) ++ st) := by
      rw [show N - j = (N - (j + 1)) + 1 by omega]
      rfl
    refine ih _ ⟨by omega, (hf.tr (Fr.si (Or.inr (Or.inl rfl)))).tr (Fr.si (Or.inl rfl)), ?_, ?_, ?_, ?_⟩
    · rw [eL]
      show _ = nI ((rhs G p (N - (j + 1)) (j + 1) ++ st).length + 1)
      rw [← hl0]
      simp [si_1]
    · simp [si_1, t3]
    · rw [si_r _ _ _ _ (by decide), si_r _ _ _ _ (by decide)]; exact t23
    · rw [eL, si_r _ _ _ _ (by decide), si_q, hl0]
      exact SK1.push hSt
  · rintro rec t ⟨_, hf, t2, t3, t23, hSt⟩
    rw [Nat.sub_zero] at t2 hSt
    rw [hN] at t2 hSt
    rw [if_pos dn_neg]
    refine wp_some ⟨hf, t2, t3, hSt, ?_⟩
    rw [t23, hs2, si_r _ _ _ _ (by decide), si_q]
    exact SK1.push hC
  · rw [Nat.sub_self, hs2]
    show _ = nI ([] ++ st).length
    simp [si_1, h2]
  · rw [hs2]; simp [si_1]
  · rw [Nat.sub_self, hs2, si_r _ _ _ _ (by decide), si_r _ _ _ _ (by decide)]
    exact hS
theorem run_c {G : Gr} {L : Nat} {tx D : Nat → Nat} {s : PH} (hX : XG G s) (w : WG G) (hT : TX L tx s) (hI : INP L tx) (hD : DEP D s) {n : Nat} (hn : 100 ≤ n) : wp (fX6_run n (s.2.2 0 8) s) (fun r t => Fr isPr s t ∧ ∃ k m, itr (nxt G (uT tx) L D) ([10 + G.2.1 0], 0, []) k = some m ∧ nxt G (uT tx) L D m = none ∧ RES L m r ∧ m.2.2.length ≤ 60 ∧ t.1 21 3 = nI m.2.2.length ∧ SK1 (t.1 23) m.2.2) := by
  have hL := hI.1
  have h6 := lft6 w w.1.1
  have hg := hX.1
  unfold fX6_run
  rw [lt_def, lt_def]
  have fa : Fr isPr s (si s 21 3 (nI 0)) := Fr.si (Or.inl rfl)
  have hGa := hX.2.1.fr fa (fun k hk => by unfold isPr gId; omega)
  rw [start_c hGa w, bd_ok, wa_ok _ (by decide) (by decide), cl_ok (by decide), lt_def, lt_def, lt_def, nI_add]
  obtain ⟨s6, hs6⟩ : ∃ s6, s6 = si (si (si s 21 3 (nI 0)) 22 0 (nI (10 + G.2.1 0))) 21 2 (nI 1) := ⟨_, rfl⟩
  rw [← hs6]
  have f6 : Fr isPr s s6 := by rw [hs6]; exact (fa.tr (Fr.si (Or.inr (Or.inl rfl)))).tr (Fr.si (Or.inl rfl))
  refine wp_loo3 (fun v8 v9 t => ∃ k st fr cs, itr (nxt G (uT tx) L D) ([10 + G.2.1 0], 0, []) k = some (st, fr, cs) ∧ v8 = nI fr ∧ v9 = nI (cs.length + fr) ∧ cs.length ≤ 60 ∧ fr ≤ L ∧ st.length ≤ 1 + 4 * cs.length ∧ S16y st ∧ Fr isPr s t ∧ t.1 21 2 = nI st.length ∧ t.1 21 3 = nI cs.length ∧ SK1 (t.1 22) st ∧ SK1 (t.1 23) cs) (fun _ v9 _ => 80 - v9.toNatClampNeg) ?_ n _ _ s6 ⟨0, [10 + G.2.1 0], 0, [], rfl, rfl, rfl, Nat.zero_le _, Nat.zero_le _, Nat.le_refl _, fun y hy => ?_, f6, ?_, ?_, ⟨?_, trivial⟩, trivial⟩ (by omega)
  · rintro rec v8 v9 t ⟨k, st, fr, cs, hit, rfl, rfl, hc60, hfr, hlen, h16, hf, t2, t3, hS, hC⟩ ih
    have t11 : t.1 1 1 = nI L := by rw [(hf 1 (by unfold isPr; omega)).1]; exact hT.2.1
    have hTt : TX L tx t := hT.fr hf (by unfold isPr; omega) (by unfold isPr; omega) (by unfold isPr; omega) (by rw [(hf 148 (by unfold isPr; omega)).1])
    have hXt := hX.fr w hf (fun q hq => by unfold isPr; omega)
    have eg : t.2.2 0 8 = s.2.2 0 8 := by rw [(hf 0 (by unfold isPr; omega)).2.2]
    -- the end
    have stop : nxt G (uT tx) L D (st, fr, cs) = none → ∀ r, RES L (st, fr, cs) r → ∀ t', Fr isPr s t' → t'.1 21 3 = nI cs.length → t'.1 23 = t.1 23 → wp (some (r, t')) (fun r t => Fr isPr s t ∧ ∃ k m, itr (nxt G (uT tx) L D) ([10 + G.2.1 0], 0, []) k = some m ∧ nxt G (uT tx) L D m = none ∧ RES L m r ∧ m.2.2.length ≤ 60 ∧ t.1 21 3 = nI m.2.2.length ∧ SK1 (t.1 23) m.2.2) :=
      fun h1 r h2 t' h3 h4 h5 => wp_some ⟨h3, k, (st, fr, cs), hit, h1, h2, hc60, h4, by rw [h5]; exact hC⟩
    refine wp_jn1 (fun t' => t' = t ∧ st = []) ?_ ?_
    · rintro t' ⟨rfl, est⟩
      subst est
      unfold fX8_size
      rw [bd_ok, t11, ieq (by omega) (by omega), t3]
      by_cases e : fr = L
      · rw [if_pos e]
        exact stop rfl _ (Or.inl ⟨rfl, e, rfl⟩) _ hf t3 rfl
      · rw [if_neg e]
        exact stop rfl _ (Or.inr ⟨fun h => e h.2, rfl⟩) _ hf t3 rfl
    · intro j13 hj13
      rw [ile (by decide) (by omega), if_neg (by omega), t2, ilez (by omega)]
      cases st with
      | nil =>
        rw [if_pos (show ([] : List Nat).length ≤ 0 from Nat.le_refl _)]
        exact hj13 _ ⟨rfl, rfl⟩
      | cons y st0 =>
        have el : (y :: st0).length = st0.length + 1 := rfl
        rw [el] at hlen t2 ⊢
        have hy := h16 y List.mem_cons_self
        have r22 : t.1 22 st0.length = nI y := hS.1
        rw [if_neg (by omega), dn_s, lt_def]
        obtain ⟨t1, ht1⟩ : ∃ t1, t1 = si t 21 2 (nI st0.length) := ⟨_, rfl⟩
        rw [← ht1]
        have f1 : Fr isPr s t1 := by rw [ht1]; exact hf.tr (Fr.si (Or.inl rfl))
        have b2 : t1.1 21 2 = nI st0.length := by rw [ht1]; simp [si_1]
        have b3 : t1.1 21 3 = nI cs.length := by rw [ht1]; simp [si_1, t3]
        have b22 : t1.1 22 = t.1 22 := by rw [ht1, si_r _ _ _ _ (by decide)]
        have b23 : t1.1 23 = t.1 23 := by rw [ht1, si_r _ _ _ _ (by decide)]
        have hX1 := hX.fr w f1 (fun q hq => by unfold isPr; omega)
        have eg1 : t1.2.2 0 8 = s.2.2 0 8 := by rw [(f1 0 (by unfold isPr; omega)).2.2]
        have hT1 : TX L tx t1 := hT.fr f1 (by unfold isPr; omega) (by unfold isPr; omega) (by unfold isPr; omega) (by rw [(f1 148 (by unfold isPr; omega)).1])
        rw [b2, b22, ra_ok _ _ (by omega) (by decide), r22, lt_def, isLetter_c (by omega), bd_ok]
        refine wp_jn2 (fun v21 t' => ∃ st' fr' cs', nxt G (uT tx) L D (y :: st0, fr, cs) = some (st', fr', cs') ∧ v21 = nI fr' ∧ cs'.length + fr' = cs.length + fr + 1 ∧ cs'.length ≤ 60 ∧ fr' ≤ L ∧ st'.length ≤ 1 + 4 * cs'.length ∧ S16y st' ∧ Fr isPr s t' ∧ t'.1 21 2 = nI st'.length ∧ t'.1 21 3 = nI cs'.length ∧ SK1 (t'.1 22) st' ∧ SK1 (t'.1 23) cs') ?_ ?_
        · rintro v21 t' ⟨st', fr', cs', hnx, rfl, hsum, a1, a2, a3, a4, a5, a6, a7, a8, a9⟩
          rw [lt_def, nI_add]
          refine ih _ _ _ ⟨k + 1, st', fr', cs', itr_s hit hnx, rfl, by rw [hsum], a1, a2, a3, a4, a5, a6, a7, a8, a9⟩ ?_
          rw [cl_ok (by omega), cl_ok (by omega)]
          omega
        · intro j23 hj23
          have bad : ∀ t', Fr isPr s t' → t'.1 21 3 = nI cs.length → t'.1 23 = t.1 23 → nxt G (uT tx) L D (y :: st0, fr, cs) = none → wp (some (-10 - nI fr, t')) (fun r t => Fr isPr s t ∧ ∃ k m, itr (nxt G (uT tx) L D) ([10 + G.2.1 0], 0, []) k = some m ∧ nxt G (uT tx) L D m = none ∧ RES L m r ∧ m.2.2.length ≤ 60 ∧ t.1 21 3 = nI m.2.2.length ∧ SK1 (t.1 23) m.2.2) :=
            fun t' h1 h2 h3 h4 => stop h4 _ (Or.inr ⟨fun h => List.cons_ne_nil _ _ h.1, rfl⟩) t' h1 h2 h3
          by_cases hy10 : y < 10
          · rw [decide_eq_true hy10, bI_t, if_neg n1_0]
            have hnx : nxt G (uT tx) L D (y :: st0, fr, cs) = if fr < L ∧ uT tx fr = y then some (st0, fr + 1, cs) else none := by
              show (if y < 10 then _ else _) = _
              rw [if_pos hy10]
            unfold fX8_letterAt fX8_at
            rw [if_neg (nlt0 (by omega)), hT1.2.1, ile (by omega) (by omega)]
            by_cases hle : L ≤ fr
            · rw [if_pos hle, bd_ok, bd_ok, if_neg]
              · exact bad t1 f1 b3 b23 (by rw [hnx, if_neg (by omega)])
              · have : ∀ y, y < 16 → ¬ ((-9 : Int32) - nI 97 = nI y) := by decide +kernel
                exact this y hy
            · have x1 := (hT1.2.2.2 fr (by omega)).1
              have x2 := hI.2 fr (by omega)
              rw [if_neg hle, ra_ok _ _ (by omega) (by decide), x1, bd_ok, nI_subN (by omega), bd_ok, ieq (by omega) (by omega)]
              by_cases hc : tx fr - 97 = y
              · rw [if_pos hc, lt_def, nI_add]
                refine hj23 _ _ ⟨st0, fr + 1, cs, by rw [hnx, if_pos ⟨by omega, hc⟩], rfl, by omega, hc60, by omega, by omega, fun z hz => h16 z (List.mem_cons_of_mem _ hz), f1, b2, b3, by rw [b22]; exact hS.2, by rw [b23]; exact hC⟩
              · rw [if_neg hc]
                exact bad t1 f1 b3 b23 (by rw [hnx, if_neg (fun h => hc h.2)])
          · rw [decide_eq_false hy10, bI_f, if_pos n0_0, nI_subN (by omega), lt_def]
            obtain ⟨D4, D19⟩ := hD (y - 10) (by omega)
            have r19 : t1.1 19 (y - 10) = nI (D (y - 10)) := by rw [(f1 19 (by unfold isPr; omega)).1]; exact D19
            obtain ⟨b1', b2', b3'⟩ := bgl_ok (f := fun i => uT tx (fr + i)) (m := min (D (y - 10)) (L - fr)) (by omega) (fun i hi => by have := hI.2 (fr + i) (by omega); show tx (fr + i) - 97 < 5; omega)
            have hnx : nxt G (uT tx) L D (y :: st0, fr, cs) = if cs.length < 60 then (match cho G (D (y - 10)) (bgl (fun i => uT tx (fr + i)) (min (D (y - 10)) (L - fr))) (y - 10) with | none => none | some p => some (rh G p ++ st0, fr, p :: cs)) else none := by
              show (if y < 10 then _ else _) = _
              rw [if_neg hy10]
            unfold fX3_depthOf
            rw [ra_ok _ _ (by omega) (by decide), r19, bd_ok, lt_def, beginning_c hT1 hI hfr D4 (by omega), bd_ok, ← b3']
            obtain ⟨r, e1, e2⟩ := choose_c (n := n) hX1 w (x := y - 10) (by omega) D4 b1' (by omega) (by omega)
            rw [eg1] at e1
            rw [e1, bd_ok, lt_def]
            rcases e2 with ⟨e2, rfl⟩ | ⟨p, e2, hp, rfl⟩
            · rw [if_pos rfl]
              refine bad t1 f1 b3 b23 ?_
              rw [hnx, e2]
              by_cases h : cs.length < 60
              · rw [if_pos h]
              · rw [if_neg h]
            · have hp16 := w.1.2
              rw [if_neg (neg_lt (by omega)), b3, ilt (by omega) (by decide)]
              by_cases h60 : cs.length < 60
              · rw [if_pos h60]
                have hG1 := hX1.2.1
                rw [eg1] at hG1
                refine wp_call (take_c hG1 hg w hp h60 (by omega) b2 b3 (by rw [b22]; exact hS.2) (by rw [b23]; exact hC) (show 20 ≤ n by omega)) (fun _ t3 ⟨g1, g2, g3, g4, g5⟩ => ?_)
                have hl5 := (w.2.1 p hp).2
                have hlen3 : (rh G p ++ st0).length = G.2.2.1 p + st0.length := by
                  rw [List.length_append]
                  show (rhs G p (G.2.2.1 p) 0).length + _ = _
                  rw [rhs_len]
                refine hj23 _ _ ⟨rh G p ++ st0, fr, p :: cs, by rw [hnx, if_pos h60, e2], rfl, ?_, ?_, hfr, ?_, S16y.rh w hp (fun z hz => h16 z (List.mem_cons_of_mem _ hz)), f1.tr g1, g2, g3, g4, g5⟩
                · show cs.length + 1 + fr = _
                  omega
                · show cs.length + 1 ≤ 60
                  omega
                · show _ ≤ 1 + 4 * (cs.length + 1)
                  omega
              · rw [if_neg h60]
                refine bad t1 f1 b3 b23 ?_
                rw [hnx, if_neg h60]
  · rw [List.mem_singleton] at hy
    omega
  · rw [hs6]; simp [si_1]
  · rw [hs6]; simp [si_1]
  · rw [hs6]; simp [si_1]
/-! the reference -/
theorem restBy_m {L : Nat} {u : Nat → Nat} {s : PH} (h24 : s.1 148 24 = nI L) (hU : UT u L s) (hu5 : ∀ i, i < L → u i < 5) (hL : L ≤ 8) {fr k n : Nat} (hf : fr ≤ L) (hk : k < 4) (hn : 20 ≤ n) : fX12_restBy n (nI fr) (nI k) s = some (nI (cod (fun i => u (fr + i)) (min k (L - fr))), s) := by
  have key : wp (fX12_restBy n (nI fr) (nI k) s) (fun r t => t = s ∧ r = nI (cod (fun i => u (fr + i)) (min k (L - fr)))) := by
    unfold fX12_restBy
    simp only [lt_def]
    refine wp_for3 (fr + min k (L - fr)) (by omega) (fun j v t => fr ≤ j ∧ t = s ∧ v = nI (cod (fun i => u (fr + i)) (j - fr))) ?_ ?_ n fr _ s (by omega) ⟨Nat.le_refl _, rfl, by rw [Nat.sub_self]; rfl⟩ (by omega)
    · rintro rec j v t hj ⟨hfj, rfl, rfl⟩ ih
      have x1 := hU j (by omega)
      simp (disch := omega) only [h24, nI_add, le_ok, if_neg, ra_ok, x1, nI_mulN]
      refine ih _ _ ⟨by omega, rfl, ?_⟩
      rw [show j + 1 - fr = (j - fr) + 1 by omega]
      show _ = nI (6 * cod (fun i => u (fr + i)) (j - fr) + u (fr + (j - fr)) + 1)
      rw [show fr + (j - fr) = j by omega]
    · rintro rec v t ⟨hfj, rfl, rfl⟩
      simp (disch := omega) only [h24, nI_add, le_ok]
      rw [show fr + min k (L - fr) - fr = min k (L - fr) by omega]
      by_cases h : L ≤ fr + min k (L - fr)
      · rw [if_pos h]; exact wp_some ⟨rfl, rfl⟩
      · rw [if_neg h, if_pos (by omega)]; exact wp_some ⟨rfl, rfl⟩
  obtain ⟨r, t, e, rfl, rfl⟩ := key
  exact e
theorem choose_m {G : Gr} {s : PH} {L : Nat} {u D : Nat → Nat} (hX : XG G s) (hK : GK G) (hM : MLd G s) (hD : DEP D s) (h24 : s.1 148 24 = nI L) (hU : UT u L s) (hu5 : ∀ i, i < L → u i < 5) (hL : L ≤ 8) {x fr n : Nat} (hx : x < 6) (hf : fr ≤ L) (hn : 300 ≤ n) : ∃ r, fX12_choose n (nI x) (nI fr) s = some (r, s) ∧ CR (cho G (D x) (bgl (fun i => u (fr + i)) (min (D x) (L - fr))) x) G.1 r := by
  have w := hK.1
  have h16 := w.1.2
  obtain ⟨D4, D19⟩ := hD x hx
  obtain ⟨b1, b2, b3⟩ := bgl_ok (f := fun i => u (fr + i)) (m := min (D x) (L - fr)) (by omega) (fun i hi => hu5 (fr + i) (by omega))
  obtain ⟨l, hl⟩ : ∃ l, l = bgl (fun i => u (fr + i)) (min (D x) (L - fr)) := ⟨_, rfl⟩
  rw [← hl] at b1 b2 b3 ⊢
  have hlk : l.length ≤ D x := by omega
  have key : wp (fX12_choose n (nI x) (nI fr) s) (fun r t => t = s ∧ CR (cho G (D x) l x) G.1 r) := by
    unfold fX12_choose
    rw [depthOf_m hX hK hM hx hn, bd_ok, D19, lt_def, restBy_m h24 hU hu5 hL hf D4 (by omega), bd_ok, lt_def, lt_def, ← b3]
    refine wp_for2 G.1 (by omega) (fun p t => t = s ∧ ∀ q, q < p → ¬ cnd G (D x) l x q) ?_ ?_ n 0 s (Nat.zero_le _) ⟨rfl, fun q hq => absurd hq (Nat.not_lt_zero q)⟩ (by omega)
    · rintro rec p t hp ⟨rfl, hno⟩ ih
      have hl6 := (w.2.1 p hp).1
      obtain ⟨r, e1, e2⟩ := has_c (hX.2.2.2.2.2.2.1 p hp) b1 D4 hlk
      obtain ⟨r', e1', e2'⟩ := has_2 hM (hX.2.2.2.2.2.2.1 p hp) (show 12 + p < 28 by omega) (zS_a hp) b1 D4 hlk
      have er : r' = r := by
        rw [e1] at e1'
        exact (congrArg Prod.fst (Option.some.inj e1')).symm
      rw [er] at e2'
      rw [many_e hM.1, bd_ok, if_neg (by rw [le_ok (by omega) (by omega)]; omega), left_e hM.1 w hp, bd_ok]
      refine wp_jn1 (fun t' => t' = t ∧ ¬ cnd G (D x) l x p) ?_ ?_
      · rintro t' ⟨rfl, hc⟩
        rw [lt_def, nI_add]
        refine ih _ ⟨rfl, fun q hq => ?_⟩
        by_cases e : q = p
        · rw [e]; exact hc
        · exact hno q (by omega)
      · intro j16 hj16
        rw [ieq (by omega) (by omega)]
        by_cases hpl : G.2.1 p = x
        · rw [if_pos hpl, nI_mulN, nI_add, show 2592 + 216 * p = 216 * (12 + p) by omega, e2', bd_ok]
          by_cases h0 : r = 0
          · rw [if_pos h0]
            exact hj16 _ ⟨rfl, fun hc => e2.eq h0 hc.2⟩
          · rw [if_neg h0]
            exact wp_some ⟨rfl, Or.inr ⟨p, chP_s ⟨hpl, e2.ne h0⟩ _ _ (Nat.zero_le _) (by omega) (fun q _ h => hno q h), hp, rfl⟩⟩
        · rw [if_neg hpl]
          exact hj16 _ ⟨rfl, fun hc => hpl hc.1⟩
    · rintro rec t ⟨rfl, hno⟩
      rw [many_e hM.1, bd_ok, if_pos (by rw [le_ok (by omega) (by omega)]; exact Nat.le_refl _)]
      exact wp_some ⟨rfl, Or.inl ⟨chP_n _ _ (fun q _ hq => hno q (by omega)), rfl⟩⟩
  obtain ⟨r, t, e, rfl, hp⟩ := key
  exact ⟨r, e, hp⟩
