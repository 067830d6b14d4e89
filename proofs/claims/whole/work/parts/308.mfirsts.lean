/-! ===== the reference: first words ===== -/
theorem sy5 {G : Gr} (w : WG G) {p i : Nat} (hp : p < G.1) (hi : i < G.2.2.1 p) (h : G.2.2.2 p i < 10) : G.2.2.2 p i < 5 := by
  rcases w.2.2.1 p i hp hi with h1 | h1 <;> omega
theorem sW.vs {F : Nat → WLs} (hF : ∀ x, VS (F x)) {y : Nat} (hy : y < 10 → y < 5) : VS (sW F y) := by
  unfold sW
  split
  · rintro l rfl
    exact VL.one (hy ‹_›)
  · exact hF _
theorem sqL.vs {G : Gr} (w : WG G) {F : Nat → WLs} (hF : ∀ x, VS (F x)) {A : WLs} (hA : VS A) {p a : Nat} (hp : p < G.1) : ∀ k, a + k ≤ G.2.2.1 p → VS (sqL F (G.2.2.2 p) A a k)
  | 0, _ => hA
  | k + 1, h => JL.vs (sqL.vs w hF hA hp k (by omega)) (sW.vs hF (fun h1 => sy5 w hp (by omega) h1))
theorem L1.vs : VS L1 := by rintro l rfl; exact VL.nil
def is7 (q : Nat) : Prop := q = 161 ∨ q = 162 ∨ q = 163
/-- the six sets of a kind, one behind the other -/
def S6 (f : Nat → Int32) (F : Nat → WLs) : Prop := ∀ x, x < 6 → SA f (216 * x) (F x)
theorem joinsSymbols_e {G : Gr} {s : PH} {F : Nat → WLs} {A : WLs} (h : MG G (s.1 149)) (w : WG G) (hF : ∀ x, VS (F x)) (hA : VS A) (hm : SA (s.1 161) 0 A) (h6 : S6 (s.1 158) F) (hz : ∀ c, c < 216 → s.1 163 c = nI 0) {n p a : Nat} (hp : p < G.1) (ha : a ≤ G.2.2.1 p) (hn : 300 ≤ n) : wp (fX12_joinsSymbols n (nI p) (nI a) s) (fun _ t => Fr is7 s t ∧ SA (t.1 161) 0 (sqL F (G.2.2.2 p) A a (G.2.2.1 p - a)) ∧ ∀ c, c < 216 → t.1 163 c = nI 0) := by
  have h5 := (w.2.1 p hp).2
  unfold fX12_joinsSymbols
  simp only [lt_def]
  refine wp_for2 (G.2.2.1 p) (by omega) (fun j t => a ≤ j ∧ Fr is7 s t ∧ SA (t.1 161) 0 (sqL F (G.2.2.2 p) A a (j - a)) ∧ ∀ c, c < 216 → t.1 163 c = nI 0) ?_ ?_ n a s ha ⟨Nat.le_refl a, Fr.rf, by rw [Nat.sub_self]; exact hm, hz⟩ (by omega)
  · rintro rec i t hi ⟨hai, hf, hm, hz⟩ ih
    have hM := h.fr hf (by unfold is7; decide)
    have hS6 : S6 (t.1 158) F := by rw [(hf 158 (by unfold is7; decide)).1]; exact h6
    have hv := sqL.vs w hF hA hp (a := a) (i - a) (by omega)
    have hy := sy16 w hp hi
    have eS : sqL F (G.2.2.2 p) A a (i + 1 - a) = JL (sqL F (G.2.2.2 p) A a (i - a)) (sW F (G.2.2.2 p i)) := by
      rw [show i + 1 - a = (i - a) + 1 by omega]
      show JL _ (sW F (G.2.2.2 p (a + (i - a)))) = _
      rw [show a + (i - a) = i by omega]
    simp (disch := omega) only [size_e hM w hp, bd_ok, le_ok, if_neg, at_e hM w hp hi, jn_def, lt_def, nI_add, lt_ok]
    by_cases hc : G.2.2.2 p i < 10
    · have hy5 := sy5 w hp hi hc
      rw [if_pos hc]
      simp (disch := omega) only [wa_ok, cl_ok, nz1, nz0]
      have e163 : (si t 163 (G.2.2.2 p i + 1) (nI 1)).1 163 = fun b => if b = G.2.2.2 p i + 1 then nI 1 else t.1 163 b := si_q _ _ _ _
      have hset : SA ((si t 163 (G.2.2.2 p i + 1) (nI 1)).1 163) 0 (fun l => l = [G.2.2.2 p i]) := by
        intro c hc2
        rw [e163, Nat.zero_add]
        dsimp only
        by_cases e : c = G.2.2.2 p i + 1
        · rw [if_pos e]
          exact Or.inl ⟨rfl, _, rfl, by rw [e]; rfl⟩
        · rw [if_neg e]
          exact Or.inr ⟨hz c hc2, fun ⟨l, h1, h2⟩ => e (by rw [← h2, h1]; rfl)⟩
      have hm2 : SA ((si t 163 (G.2.2.2 p i + 1) (nI 1)).1 161) 0 (sqL F (G.2.2.2 p) A a (i - a)) := by rw [si_r _ _ _ _ (by decide)]; exact hm
      have hvs : VS (fun l => l = [G.2.2.2 p i]) := by rintro l rfl; exact VL.one hy5
      have hj := joins_e (n := n) (q := 163) (nq := 216) (o := 0) hv hvs hm2 hset (by unfold is6; decide) (by omega) (by omega) hn
      refine wp_call hj (fun _ t2 h2 => ?_)
      have hf2 : Fr is7 s t2 := (hf.tr (Fr.si (Or.inr (Or.inr rfl)))).tr (h2.1.wk (fun q hq => hq.elim Or.inl (fun e => Or.inr (Or.inl e))))
      have hM2 := h.fr hf2 (by unfold is7; decide)
      simp (disch := omega) only [at_e hM2 w hp hi, bd_ok, nI_add, wa_ok, cl_ok]
      refine ih _ ⟨by omega, hf2.tr (Fr.si (Or.inr (Or.inr rfl))), ?_, fun c hc2 => ?_⟩
      · rw [si_r _ _ _ _ (by decide), eS]
        have e2 : sW F (G.2.2.2 p i) = fun l => l = [G.2.2.2 p i] := by unfold sW; rw [if_pos hc]
        rw [e2]
        exact h2.2
      · rw [si_q, (h2.1 163 (by unfold is6; decide)).1, e163]
        dsimp only
        by_cases e : c = G.2.2.2 p i + 1
        · rw [if_pos e]
        · rw [if_neg e, if_neg e]; exact hz c hc2
    · rw [if_neg hc]
      simp (disch := omega) only [nI_subN, nI_mulN]
      have hj := joins_e (n := n) (q := 158) (nq := 1296) (o := 216 * (G.2.2.2 p i - 10)) hv (hF _) hm (hS6 _ (by omega)) (by unfold is6; decide) (by omega) (by omega) hn
      refine wp_call hj (fun _ t2 h2 => ?_)
      refine ih _ ⟨by omega, hf.tr (h2.1.wk (fun q hq => hq.elim Or.inl (fun e => Or.inr (Or.inl e)))), ?_, fun c hc2 => ?_⟩
      · rw [eS]
        have e2 : sW F (G.2.2.2 p i) = F (G.2.2.2 p i - 10) := by unfold sW; rw [if_neg hc]
        rw [e2]
        exact h2.2
      · rw [(h2.1 163 (by unfold is6; decide)).1]; exact hz c hc2
  · rintro rec t ⟨hai, hf, hm, hz⟩
    have hM := h.fr hf (by unfold is7; decide)
    simp (disch := omega) only [size_e hM w hp, bd_ok, le_ok, if_pos]
    exact wp_some ⟨hf, hm, hz⟩
def uS (A B : WLs) : WLs := fun l => A l ∨ B l
theorem uS_cd {A B : WLs} {c : Nat} : cd (uS A B) c ↔ cd A c ∨ cd B c := by
  constructor
  · rintro ⟨l, h | h, e⟩
    · exact Or.inl ⟨l, h, e⟩
    · exact Or.inr ⟨l, h, e⟩
  · rintro (⟨l, h, e⟩ | ⟨l, h, e⟩)
    · exact ⟨l, Or.inl h, e⟩
    · exact ⟨l, Or.inr h, e⟩
theorem enters_e {s : PH} {q nq o n : Nat} {A S : WLs} (hm : SA (s.1 161) 0 A) (hs : SA (s.1 q) o S) (hq : q ≠ 161) (ho : o + 216 ≤ nq) (hnq : nq ≤ 30000) (hn : 300 ≤ n) : wp (fX12_enters n q nq (nI o) s) (fun r t => Fr (fun x => x = q) s t ∧ (∀ k, (k < o ∨ o + 216 ≤ k) → t.1 q k = s.1 q k) ∧ SA (t.1 q) o (uS S A) ∧ PB r (∃ c, c < 216 ∧ cd A c ∧ ¬ cd S c)) := by
  unfold fX12_enters
  simp only [lt_def]
  refine wp_for3 216 (by omega) (fun j v t => Fr (fun x => x = q) s t ∧ (∀ k, (k < o ∨ o + j ≤ k) → t.1 q k = s.1 q k) ∧ (∀ c, c < j → PB (t.1 q (o + c)) (cd (uS S A) c)) ∧ PB v (∃ c, c < j ∧ cd A c ∧ ¬ cd S c)) ?_ ?_ n 0 _ s (by omega) ⟨Fr.rf, fun _ _ => rfl, fun x hx => absurd hx (Nat.not_lt_zero x), PB.f (fun ⟨c, hc, _⟩ => absurd hc (Nat.not_lt_zero c))⟩ (by omega)
  · rintro rec j v t hj ⟨hf, ho1, hb, hv⟩ ih
    have e161 : t.1 161 = s.1 161 := (hf 161 (fun e => hq e.symm)).1
    have hmj : PB (t.1 161 j) (cd A j) := by rw [e161]; have := hm.pb hj; rwa [Nat.zero_add] at this
    have hsj : PB (t.1 q (o + j)) (cd S j) := by rw [ho1 (o + j) (by omega)]; exact hs.pb hj
    simp (disch := omega) only [le_ok, if_neg, jn_def, lt_def, nI_add, ra_ok, wa_ok, cl_ok, nz0, nz1]
    have fin2 : ∀ (v' x : Int32), PB v' (∃ c, c < j + 1 ∧ cd A c ∧ ¬ cd S c) → PB x (cd (uS S A) j) → wp (rec v' (nI (j + 1)) (si t q (o + j) x)) (fun r t => Fr (fun x => x = q) s t ∧ (∀ k, (k < o ∨ o + 216 ≤ k) → t.1 q k = s.1 q k) ∧ SA (t.1 q) o (uS S A) ∧ PB r (∃ c, c < 216 ∧ cd A c ∧ ¬ cd S c)) := by
      intro v' x hv' hx
      refine ih _ _ ⟨hf.tr (Fr.si rfl), fun k hk => ?_, fun c hc => ?_, hv'⟩
      · rw [si_q]
        dsimp only
        rw [if_neg (by omega)]
        exact ho1 k (by omega)
      · rw [si_q]
        dsimp only
        by_cases e : c = j
        · rw [if_pos (by omega), e]; exact hx
        · rw [if_neg (by omega)]; exact hb c (by omega)
    have fin : ∀ v' : Int32, PB v' (∃ c, c < j + 1 ∧ cd A c ∧ ¬ cd S c) → wp (if t.1 q (o + j) = 0 then (if t.1 161 j = 0 then rec v' (nI (j + 1)) (si t q (o + j) (nI 0)) else rec v' (nI (j + 1)) (si t q (o + j) (nI 1))) else rec v' (nI (j + 1)) (si t q (o + j) (nI 1))) (fun r t => Fr (fun x => x = q) s t ∧ (∀ k, (k < o ∨ o + 216 ≤ k) → t.1 q k = s.1 q k) ∧ SA (t.1 q) o (uS S A) ∧ PB r (∃ c, c < 216 ∧ cd A c ∧ ¬ cd S c)) := by
      intro v' hv'
      by_cases h1 : t.1 q (o + j) = 0
      · rw [if_pos h1]
        by_cases h2 : t.1 161 j = 0
        · rw [if_pos h2]
          exact fin2 _ _ hv' (PB.f (fun h => (uS_cd.mp h).elim (hsj.eq h1) (hmj.eq h2)))
        · rw [if_neg h2]
          exact fin2 _ _ hv' (PB.t (uS_cd.mpr (Or.inr (hmj.ne h2))))
      · rw [if_neg h1]
        exact fin2 _ _ hv' (PB.t (uS_cd.mpr (Or.inl (hsj.ne h1))))
    have keep : ¬ (cd A j ∧ ¬ cd S j) → v = 0 → wp (if t.1 q (o + j) = 0 then (if t.1 161 j = 0 then rec (nI 0) (nI (j + 1)) (si t q (o + j) (nI 0)) else rec (nI 0) (nI (j + 1)) (si t q (o + j) (nI 1))) else rec (nI 0) (nI (j + 1)) (si t q (o + j) (nI 1))) (fun r t => Fr (fun x => x = q) s t ∧ (∀ k, (k < o ∨ o + 216 ≤ k) → t.1 q k = s.1 q k) ∧ SA (t.1 q) o (uS S A) ∧ PB r (∃ c, c < 216 ∧ cd A c ∧ ¬ cd S c)) := by
      intro hk h0
      refine fin _ (PB.f (fun ⟨c, hc, h1⟩ => ?_))
      rcases Nat.lt_or_ge c j with h2 | h2
      · exact hv.eq h0 ⟨c, h2, h1⟩
      · exact hk (by rw [show j = c by omega]; exact h1)
    by_cases h0 : v = 0
    · rw [if_pos h0]
      by_cases h1 : t.1 161 j = 0
      · rw [if_pos h1]
        have := keep (fun h => hmj.eq h1 h.1) h0
        simpa only [if_pos h1] using this
      · rw [if_neg h1]
        by_cases h2 : t.1 q (o + j) = 0
        · rw [if_pos h2]
          have := fin (nI 1) (PB.t ⟨j, by omega, hmj.ne h1, hsj.eq h2⟩)
          simpa only [if_neg h1, if_pos h2] using this
        · rw [if_neg h2]
          have := keep (fun h => h.2 (hsj.ne h2)) h0
          simpa only [if_neg h1, if_neg h2] using this
    · rw [if_neg h0]
      obtain ⟨c, hc, h1⟩ := hv.ne h0
      exact fin _ (PB.t ⟨c, by omega, h1⟩)
  · rintro rec v t ⟨hf, ho1, hb, hv⟩
    simp (disch := omega) only [le_ok, if_pos]
    have hr : rz v t = some (v, t) := by
      unfold rz
      rw [if_pos]
      rcases hv with ⟨h, _⟩ | ⟨h, _⟩ <;> rw [h]
      · exact Or.inr (by decide +kernel)
      · exact Or.inl n0_0
    rw [hr]
    exact wp_some ⟨hf, ho1, hb, hv⟩
/-- how many of the first n places are 0 -/
def zc (f : Nat → Int32) : Nat → Nat
  | 0 => 0
  | n + 1 => zc f n + if f n = 0 then 1 else 0
theorem zc_le {f g : Nat → Int32} : ∀ n, (∀ k, k < n → g k = 0 → f k = 0) → zc g n ≤ zc f n
  | 0, _ => Nat.le_refl _
  | n + 1, h => by
    have h1 := zc_le (f := f) (g := g) n (fun k hk => h k (by omega))
    show zc g n + _ ≤ zc f n + _
    by_cases hg : g n = 0
    · rw [if_pos hg, if_pos (h n (by omega) hg)]; omega
    · rw [if_neg hg]; omega
theorem zc_lt {f g : Nat → Int32} : ∀ n, (∀ k, k < n → g k = 0 → f k = 0) → (∃ k, k < n ∧ f k = 0 ∧ ¬ g k = 0) → zc g n < zc f n
  | 0, _, ⟨k, hk, _⟩ => absurd hk (Nat.not_lt_zero k)
  | n + 1, h, ⟨k, hk, h1, h2⟩ => by
    have hl := zc_le (f := f) (g := g) n (fun k hk => h k (by omega))
    show zc g n + _ < zc f n + _
    rcases Nat.lt_or_ge k n with h3 | h3
    · have := zc_lt (f := f) (g := g) n (fun k hk => h k (by omega)) ⟨k, h3, h1, h2⟩
      by_cases hg : g n = 0
      · rw [if_pos hg, if_pos (h n (by omega) hg)]; omega
      · rw [if_neg hg]; omega
    · have : k = n := by omega
      subst this
      rw [if_neg h2, if_pos h1]; omega
theorem zc_n (f : Nat → Int32) : ∀ n, zc f n ≤ n
  | 0 => Nat.le_refl _
  | n + 1 => by
    have := zc_n f n
    show zc f n + _ ≤ n + 1
    split <;> omega
/-- the first words of a right side by sets F -/
def pW (G : Gr) (F : Nat → WLs) (p : Nat) : WLs := sqL F (G.2.2.2 p) L1 0 (G.2.2.1 p)
def FC (G : Gr) (F : Nat → WLs) : Prop := ∀ p, p < G.1 → ∀ l, pW G F p l → F (G.2.1 p) l
def FOK (G : Gr) (F : Nat → WLs) : Prop := (∀ x, VS (F x)) ∧ FC G F ∧ ∀ F', FC G F' → ∀ x l, F x l → F' x l
theorem sqL.mono {F F' : Nat → WLs} (h : ∀ x l, F x l → F' x l) {f : Nat → Nat} {A : WLs} {i : Nat} : ∀ k l, sqL F f A i k l → sqL F' f A i k l
  | 0, _, hl => hl
  | k + 1, l, hl => JL.mono (fun l => sqL.mono h k l) (fun l hl => by
      unfold sW at hl ⊢
      split
      · rw [if_pos ‹_›] at hl; exact hl
      · rw [if_neg ‹_›] at hl; exact h _ l hl) l hl
theorem FOK.uniq {G : Gr} {F F' : Nat → WLs} (h : FOK G F) (h' : FOK G F') : F = F' := by
  funext x l
  exact propext ⟨fun z => h.2.2 F' h'.2.1 x l z, fun z => h'.2.2 F h.2.1 x l z⟩
def isF (q : Nat) : Prop := q = 158 ∨ is7 q
theorem laysFirsts_e {G : Gr} {s : PH} (h : MG G (s.1 149)) (w : WG G) (hz : ∀ c, c < 216 → s.1 163 c = nI 0) {n : Nat} (hn : 2000 ≤ n) : wp (fX12_laysFirsts n s) (fun _ t => Fr isF s t ∧ (∀ c, c < 216 → t.1 163 c = nI 0) ∧ ∃ F, S6 (t.1 158) F ∧ FOK G F) := by
  have h16 := w.1.2
  unfold fX12_laysFirsts
  simp only [lt_def]
  refine wp_for2 1296 (by omega) (fun j t => Fr isF s t ∧ (∀ k, k < j → t.1 158 k = nI 0) ∧ ∀ c, c < 216 → t.1 163 c = nI 0) ?_ ?_ n 0 s (by omega) ⟨Fr.rf, fun x hx => absurd hx (Nat.not_lt_zero x), hz⟩ (by omega)
  · rintro rec j t hj ⟨hf, hb, hz⟩ ih
    simp (disch := omega) only [le_ok, if_neg, wa_ok, cl_ok, lt_def, nI_add, nz0]
    refine ih _ ⟨hf.tr (Fr.si (Or.inl rfl)), fun k hk => ?_, by rw [si_r _ _ _ _ (by decide)]; exact hz⟩
    rw [si_q]
    dsimp only
    by_cases e : k = j
    · rw [if_pos e]
    · rw [if_neg e]; exact hb k (by omega)
  · rintro rec t ⟨hf, hb, hz⟩
    simp (disch := omega) only [le_ok, if_pos]
    refine wp_loo2 (fun v t => (Fr isF s t ∧ (∀ c, c < 216 → t.1 163 c = nI 0) ∧ ∃ F, (S6 (t.1 158) F ∧ (∀ x, VS (F x)) ∧ (∀ F', FC G F' → ∀ x l, F x l → F' x l) ∧ PB v True)) ∨ (v = 0 ∧ Fr isF s t ∧ (∀ c, c < 216 → t.1 163 c = nI 0) ∧ ∃ F, S6 (t.1 158) F ∧ FOK G F)) (fun v t => if v = 0 then 0 else 1 + zc (t.1 158) 1296) ?_ n _ t ?_ ?_
    · rintro rec2 v t hI ih
      by_cases h0 : v = 0
      · rw [if_pos h0]
        rcases hI with ⟨_, _, F, _, _, _, hv⟩ | ⟨_, h1⟩
        · exact absurd trivial (hv.eq h0)
        · exact wp_some h1
      · rw [if_neg h0]
        rcases hI.symm with ⟨h1, _⟩ | ⟨hf, hz, F, hF6, hFv, hFl, hv⟩
        · exact absurd h1 h0
        refine wp_for3 G.1 (by omega) (fun p v t' => Fr isF s t' ∧ (∀ c, c < 216 → t'.1 163 c = nI 0) ∧ ∃ F', S6 (t'.1 158) F' ∧ (∀ x, VS (F' x)) ∧ (∀ F'', FC G F'' → ∀ x l, F' x l → F'' x l) ∧ (∀ k, k < 1296 → t'.1 158 k = 0 → t.1 158 k = 0) ∧ PB v (∃ k, k < 1296 ∧ t.1 158 k = 0 ∧ ¬ t'.1 158 k = 0) ∧ (v = 0 → ∀ p', p' < p → ∀ l, pW G F' p' l → F' (G.2.1 p') l)) ?_ ?_ n 0 _ t (by omega) ⟨hf, hz, F, hF6, hFv, hFl, fun _ _ h => h, PB.f (fun ⟨k, _, h1, h2⟩ => h2 h1), fun _ p' hp' => absurd hp' (Nat.not_lt_zero p')⟩ (by omega)
        · rintro rec3 p v' t' hp ⟨hf', hz', F', hF6', hFv', hFl', hgr, hv', hcl⟩ ih3
          have hM' := h.fr hf' (by unfold isF is7; decide)
          have h6 := (w.2.1 p hp).1
          simp (disch := omega) only [many_e hM', bd_ok, le_ok, if_neg]
          refine wp_call (begin_e (by omega)) (fun _ t1 h1 => ?_)
          have hf1 : Fr isF s t1 := hf'.tr (h1.1.wk (fun q e => Or.inr (Or.inl e)))
          have hM1 := h.fr hf1 (by unfold isF is7; decide)
          have e158 : t1.1 158 = t'.1 158 := (h1.1 158 (by decide)).1
          have e163 : t1.1 163 = t'.1 163 := (h1.1 163 (by decide)).1
          refine wp_call (joinsSymbols_e (n := n) (a := 0) hM1 w hFv' L1.vs h1.2 (by rw [e158]; exact hF6') (by rw [e163]; exact hz') hp (Nat.zero_le _) (by omega)) (fun _ t2 h2 => ?_)
          have hf2 : Fr isF s t2 := hf1.tr (h2.1.wk (fun q e => Or.inr e))
          have hM2 := h.fr hf2 (by unfold isF is7; decide)
          have e158b : t2.1 158 = t'.1 158 := by rw [(h2.1 158 (by unfold is7; decide)).1, e158]
          simp (disch := omega) only [left_e hM2 w hp, bd_ok, nI_mulN]
          rw [Nat.sub_zero] at h2
          refine wp_call (enters_e (n := n) (q := 158) (nq := 1296) (o := 216 * G.2.1 p) (A := pW G F' p) (S := F' (G.2.1 p)) h2.2.1 (by rw [e158b]; exact hF6' _ h6) (by decide) (by omega) (by omega) (by omega)) (fun r t3 h3 => ?_)
          obtain ⟨hf3, ho3, hs3, hr3⟩ := h3
          have hvW : VS (pW G F' p) := sqL.vs w hFv' L1.vs hp (a := 0) _ (by omega)
          have hN6 : S6 (t3.1 158) (fun x => if x = G.2.1 p then uS (F' x) (pW G F' p) else F' x) := by
            intro x hx
            dsimp only
            by_cases e : x = G.2.1 p
            · rw [if_pos e, e]; exact hs3
            · rw [if_neg e]
              intro c hc
              rw [ho3 _ (by omega), e158b]
              exact hF6' x hx c hc
          have hNv : ∀ x, VS ((fun x => if x = G.2.1 p then uS (F' x) (pW G F' p) else F' x) x) := by
            intro x l hl
            try dsimp only at hl
            by_cases e : x = G.2.1 p
            · rw [if_pos e] at hl
              rcases hl with hl | hl
              · exact hFv' _ _ hl
              · exact hvW _ hl
            · rw [if_neg e] at hl; exact hFv' _ _ hl
          have hNl : ∀ F'', FC G F'' → ∀ x l, (fun x => if x = G.2.1 p then uS (F' x) (pW G F' p) else F' x) x l → F'' x l := by
            intro F'' hC x l hl
            try dsimp only at hl
            by_cases e : x = G.2.1 p
            · rw [if_pos e] at hl
              rcases hl with hl | hl
              · exact hFl' F'' hC _ _ hl
              · rw [e]
                exact hC p hp l (sqL.mono (fun x l => hFl' F'' hC x l) _ l hl)
            · rw [if_neg e] at hl; exact hFl' F'' hC _ _ hl
          have hmono : ∀ k, k < 1296 → t3.1 158 k = 0 → t'.1 158 k = 0 := by
            intro k hk hk0
            by_cases e : 216 * G.2.1 p ≤ k ∧ k < 216 * G.2.1 p + 216
            · have h4 := (hs3.pb (c := k - 216 * G.2.1 p) (by omega))
              rw [show 216 * G.2.1 p + (k - 216 * G.2.1 p) = k by omega] at h4
              have h5 := (hF6' _ h6).pb (c := k - 216 * G.2.1 p) (by omega)
              rw [show 216 * G.2.1 p + (k - 216 * G.2.1 p) = k by omega] at h5
              rcases h5 with ⟨_, h7⟩ | ⟨h7, _⟩
              · exact absurd (uS_cd.mpr (Or.inl h7)) (h4.eq hk0)
              · rw [h7]; exact n0_0
            · rw [ho3 k (by omega), e158b] at hk0; exact hk0
          have hgr3 : ∀ k, k < 1296 → t3.1 158 k = 0 → t.1 158 k = 0 := fun k hk h0 => hgr k hk (hmono k hk h0)
          have hf3' : Fr isF s t3 := hf2.tr (hf3.wk (fun q e => Or.inl e))
          have hz3 : ∀ c, c < 216 → t3.1 163 c = nI 0 := by rw [(hf3 163 (by decide)).1]; exact h2.2.2
          have yes : (∃ k, k < 1296 ∧ t.1 158 k = 0 ∧ ¬ t3.1 158 k = 0) → wp (rec3 (nI 1) (nI (p + 1)) t3) (fun _ t => Fr isF s t ∧ (∀ c, c < 216 → t.1 163 c = nI 0) ∧ ∃ F, S6 (t.1 158) F ∧ FOK G F) := fun hex =>
            ih3 _ _ ⟨hf3', hz3, _, hN6, hNv, hNl, hgr3, PB.t hex, fun h => absurd h n1_0⟩
          simp only [jn_def, lt_def, nI_add]
          by_cases hr0 : r = 0
          · rw [if_pos hr0]
            have hno := hr3.eq hr0
            have hsub : ∀ l, pW G F' p l → F' (G.2.1 p) l := by
              intro l hl
              refine Classical.byContradiction (fun hn => hno ⟨enc l, enc_lt (hvW l hl), ⟨l, hl, rfl⟩, fun ⟨l', h1', h2'⟩ => hn ?_⟩)
              rw [← enc_inj (hFv' _ _ h1') (hvW l hl) h2']
              exact h1'
            by_cases hv0 : v' = 0
            · rw [if_pos hv0]
              have eF : (fun x => if x = G.2.1 p then uS (F' x) (pW G F' p) else F' x) = F' := by
                funext x
                by_cases e : x = G.2.1 p
                · rw [if_pos e]
                  funext l
                  exact propext ⟨fun h => h.elim id (fun h => by rw [e]; exact hsub l h), Or.inl⟩
                · rw [if_neg e]
              rw [eF] at hN6
              refine ih3 _ _ ⟨hf3', hz3, F', hN6, hFv', hFl', hgr3, PB.f (fun ⟨k, hk, ha, hb'⟩ => ?_), fun _ p' hp' => ?_⟩
              · refine hv'.eq hv0 ⟨k, hk, ha, fun h0 => hb' ?_⟩
                by_cases e : 216 * G.2.1 p ≤ k ∧ k < 216 * G.2.1 p + 216
                · have h4 := (hN6 _ h6).pb (c := k - 216 * G.2.1 p) (by omega)
                  rw [show 216 * G.2.1 p + (k - 216 * G.2.1 p) = k by omega] at h4
                  have h5 := (hF6' _ h6).pb (c := k - 216 * G.2.1 p) (by omega)
                  rw [show 216 * G.2.1 p + (k - 216 * G.2.1 p) = k by omega] at h5
                  rcases h4 with ⟨_, h7⟩ | ⟨h7, _⟩
                  · exact absurd h7 (h5.eq h0)
                  · rw [h7]; exact n0_0
                · rw [ho3 k (by omega), e158b]; exact h0
              · rcases Nat.lt_or_ge p' p with hlt | hge
                · exact hcl hv0 p' hlt
                · rw [show p' = p by omega]; exact hsub
            · rw [if_neg hv0]
              obtain ⟨k, hk, ha, hb'⟩ := hv'.ne hv0
              exact yes ⟨k, hk, ha, fun h0 => hb' (hmono k hk h0)⟩
          · rw [if_neg hr0]
            obtain ⟨c, hc, hcA, hcS⟩ := hr3.ne hr0
            have h4 := hs3.pb hc
            have h5 := (hF6' _ h6).pb hc
            refine yes ⟨216 * G.2.1 p + c, by omega, hgr _ (by omega) ?_, fun h0 => ?_⟩
            · rcases h5 with ⟨_, h7⟩ | ⟨h7, _⟩
              · exact absurd h7 hcS
              · rw [h7]; exact n0_0
            · exact h4.eq h0 (uS_cd.mpr (Or.inr hcA))
        · rintro rec3 v' t' ⟨hf', hz', F', hF6', hFv', hFl', hgr, hv', hcl⟩
          have hM' := h.fr hf' (by unfold isF is7; decide)
          simp (disch := omega) only [many_e hM', bd_ok, le_ok, if_pos]
          by_cases hv0 : v' = 0
          · refine ih _ _ (Or.inr ⟨hv0, hf', hz', F', hF6', hFv', hcl hv0, hFl'⟩) ?_
            rw [if_pos hv0, if_neg h0]; omega
          · refine ih _ _ (Or.inl ⟨hf', hz', F', hF6', hFv', hFl', ?_⟩) ?_
            · rcases hv' with ⟨e, _⟩ | ⟨e, _⟩
              · rw [e]; exact PB.t trivial
              · exact absurd (by rw [e]; exact n0_0) hv0
            · rw [if_neg hv0, if_neg h0]
              have := zc_lt 1296 hgr (hv'.ne hv0)
              omega
    · exact Or.inl ⟨hf, hz, fun _ _ => False, fun x hx c hc => Or.inr ⟨hb _ (by omega), fun ⟨_, h1, _⟩ => h1⟩, fun _ _ h1 => h1.elim, fun _ _ _ _ h1 => h1.elim, PB.t trivial⟩
    · rw [if_neg n1_0]
      have := zc_n (t.1 158) 1296
      omega
