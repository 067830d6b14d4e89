/-! ===== a stack and what it gives ===== -/
theorem rs_addf (f g : Nat → Nat) (a : Nat) : ∀ n, rs (fun k => f k + g k) a n = rs f a n + rs g a n
  | 0 => rfl
  | n + 1 => by
    show rs (fun k => f k + g k) a n + (f (a + n) + g (a + n)) = (rs f a n + f (a + n)) + (rs g a n + g (a + n))
    rw [rs_addf f g a n]
    omega
theorem rs_mulr (f : Nat → Nat) (c a : Nat) : ∀ n, rs (fun k => f k * c) a n = rs f a n * c
  | 0 => by
    show 0 = 0 * c
    rw [Nat.zero_mul]
  | n + 1 => by
    show rs (fun k => f k * c) a n + f (a + n) * c = (rs f a n + f (a + n)) * c
    rw [rs_mulr f c a n, Nat.add_mul]
/-- the order of two sums -/
theorem rs_fub (A C : Nat → Nat) (B : Nat → Nat → Nat) (a : Nat) : ∀ n, rs (fun k => A k * rs (fun to => B k to * C to) k (a + n - k)) a n = rs (fun to => rs (fun k => A k * B k to) a (to + 1 - a) * C to) a n
  | 0 => rfl
  | n + 1 => by
    show rs (fun k => A k * rs (fun to => B k to * C to) k (a + (n + 1) - k)) a n + A (a + n) * rs (fun to => B (a + n) to * C to) (a + n) (a + (n + 1) - (a + n)) = rs (fun to => rs (fun k => A k * B k to) a (to + 1 - a) * C to) a n + rs (fun k => A k * B k (a + n)) a (a + n + 1 - a) * C (a + n)
    have e1 : rs (fun k => A k * rs (fun to => B k to * C to) k (a + (n + 1) - k)) a n = rs (fun k => A k * rs (fun to => B k to * C to) k (a + n - k) + A k * B k (a + n) * C (a + n)) a n := by
      refine rs_congr n (fun j hj => ?_)
      show A (a + j) * rs (fun to => B (a + j) to * C to) (a + j) (a + (n + 1) - (a + j)) = A (a + j) * rs (fun to => B (a + j) to * C to) (a + j) (a + n - (a + j)) + A (a + j) * B (a + j) (a + n) * C (a + n)
      rw [show a + (n + 1) - (a + j) = (a + n - (a + j)) + 1 by omega]
      show A (a + j) * (rs (fun to => B (a + j) to * C to) (a + j) (a + n - (a + j)) + B (a + j) (a + j + (a + n - (a + j))) * C (a + j + (a + n - (a + j)))) = _
      rw [show a + j + (a + n - (a + j)) = a + n by omega, Nat.mul_add, Nat.mul_assoc]
    rw [e1, rs_addf, rs_fub A C B a n, rs_mulr, show a + (n + 1) - (a + n) = 0 + 1 by omega, show a + n + 1 - a = n + 1 by omega]
    show _ + A (a + n) * (0 + B (a + n) (a + n + 0) * C (a + n + 0)) = _ + (rs (fun k => A k * B k (a + n)) a n + A (a + n) * B (a + n) (a + n)) * C (a + n)
    rw [Nat.add_mul, Nat.zero_add, Nat.add_zero, Nat.mul_assoc]
    omega
theorem pS_lin {G : Gr} {x : Nat} (F : Nat → Nat → Nat) (C : Nat → Nat) (a m : Nat) : ∀ n, rs (fun to => pS G (fun p => F p to) x n * C to) a m = pS G (fun p => rs (fun to => F p to * C to) a m) x n
  | 0 => by
    refine rs_zero m (fun j _ => ?_)
    show 0 * C (a + j) = 0
    rw [Nat.zero_mul]
  | n + 1 => by
    show rs (fun to => (pS G (fun p => F p to) x n + if G.2.1 n = x then F n to else 0) * C to) a m = pS G (fun p => rs (fun to => F p to * C to) a m) x n + if G.2.1 n = x then rs (fun to => F n to * C to) a m else 0
    rw [← pS_lin F C a m n]
    by_cases h : G.2.1 n = x
    · rw [if_pos h, ← rs_addf]
      refine rs_congr m (fun j _ => ?_)
      show (_ + if G.2.1 n = x then F n (a + j) else 0) * C (a + j) = _ * C (a + j) + F n (a + j) * C (a + j)
      rw [if_pos h, Nat.add_mul]
    · rw [if_neg h, Nat.add_zero]
      refine rs_congr m (fun j _ => ?_)
      show (_ + if G.2.1 n = x then F n (a + j) else 0) * C (a + j) = _ * C (a + j)
      rw [if_neg h, Nat.add_zero]
theorem SV_cons {u : Nat → Nat} {W : Nat → Nat → Nat → Nat} {L y : Nat} {st : List Nat} {m : Nat} : SV u W L (y :: st) m = rs (fun to => sy u W y m to * SV u W L st to) m (L + 1 - m) := rfl
theorem SV_side {G : Gr} {u : Nat → Nat} {W : Nat → Nat → Nat → Nat} {L p a : Nat} (st : List Nat) (ha : a ≤ L + 1) : ∀ n i, rs (fun k => sL u W (G.2.2.2 p) i a k * SV u W L (rhs G p n i ++ st) k) a (L + 1 - a) = rs (fun k => sL u W (G.2.2.2 p) (i + n) a k * SV u W L st k) a (L + 1 - a)
  | 0, i => rfl
  | n + 1, i => by
    rw [show i + (n + 1) = (i + 1) + n by omega, ← SV_side st ha n (i + 1)]
    show rs (fun k => sL u W (G.2.2.2 p) i a k * rs (fun to => sy u W (G.2.2.2 p i) k to * SV u W L (rhs G p n (i + 1) ++ st) to) k (L + 1 - k)) a (L + 1 - a) = _
    have e := rs_fub (fun k => sL u W (G.2.2.2 p) i a k) (fun to => SV u W L (rhs G p n (i + 1) ++ st) to) (fun k to => sy u W (G.2.2.2 p i) k to) a (L + 1 - a)
    rw [show a + (L + 1 - a) = L + 1 by omega] at e
    exact e
theorem SV_rh {G : Gr} {u : Nat → Nat} {W : Nat → Nat → Nat → Nat} {L p a : Nat} (st : List Nat) (ha : a ≤ L) : SV u W L (rh G p ++ st) a = rs (fun k => sL u W (G.2.2.2 p) (G.2.2.1 p) a k * SV u W L st k) a (L + 1 - a) := by
  have e := SV_side (G := G) (u := u) (W := W) (L := L) (p := p) (a := a) st (by omega) (G.2.2.1 p) 0
  rw [Nat.zero_add] at e
  rw [← e]
  unfold rh
  have h0 : ∀ k, sL u W (G.2.2.2 p) 0 a k = if a = k then 1 else 0 := fun _ => rfl
  rw [show L + 1 - a = (L - a) + 1 by omega]
  have e2 : ∀ n, rs (fun k => sL u W (G.2.2.2 p) 0 a k * SV u W L (rhs G p (G.2.2.1 p) 0 ++ st) k) a (n + 1) = SV u W L (rhs G p (G.2.2.1 p) 0 ++ st) a := by
    intro n
    induction n with
    | zero =>
      show 0 + sL u W (G.2.2.2 p) 0 a (a + 0) * _ = _
      rw [h0, if_pos (by omega), Nat.one_mul, Nat.zero_add, Nat.add_zero]
    | succ n ih =>
      show rs (fun k => sL u W (G.2.2.2 p) 0 a k * SV u W L (rhs G p (G.2.2.1 p) 0 ++ st) k) a (n + 1) + sL u W (G.2.2.2 p) 0 a (a + (n + 1)) * _ = _
      rw [ih, h0, if_neg (by omega), Nat.zero_mul, Nat.add_zero]
  rw [e2]
theorem NT_se {G : Gr} {u : Nat → Nat} {x a b : Nat} (h : rI G 6 x = true) : se (NT G u x a b) (NN G u x a b) := by
  rw [NT_r h]
  exact se_sat _
theorem NT_eq {G : Gr} (w : WG G) (hA : ACY G) (u : Nat → Nat) {x a b : Nat} (hab : a ≤ b) (hb : b - a ≤ 8) (hx : x < 6) (hr : rI G 6 x = true) : se (NT G u x a b) (pS G (fun p => sL u (NT G u) (G.2.2.2 p) (G.2.2.1 p) a b) x G.1) :=
  se_tr (NT_se hr) (Eq.symm (NN_step w hA u (NT_F w u) hab hb hx hr (fun y c d hy hry _ _ _ _ => NT_se hry) (fun y hy hry _ => NT_se hry)))
/-- a nonterminal on top gives what its productions give -/
theorem SV_non {G : Gr} (w : WG G) (hA : ACY G) {u : Nat → Nat} {L x m : Nat} {st : List Nat} (hL : L ≤ 8) (hm : m ≤ L) (hx : x < 6) (hr : rI G 6 x = true) : se (SV u (NT G u) L ((10 + x) :: st) m) (pS G (fun p => SV u (NT G u) L (rh G p ++ st) m) x G.1) := by
  have e1 : pS G (fun p => SV u (NT G u) L (rh G p ++ st) m) x G.1 = pS G (fun p => rs (fun k => sL u (NT G u) (G.2.2.2 p) (G.2.2.1 p) m k * SV u (NT G u) L st k) m (L + 1 - m)) x G.1 := pS_congr _ (fun p _ _ => SV_rh st hm)
  rw [e1, ← pS_lin (fun p k => sL u (NT G u) (G.2.2.2 p) (G.2.2.1 p) m k), SV_cons]
  refine rs_se _ (fun j hj => se_mul ?_ se_rf)
  have : sy u (NT G u) (10 + x) m (m + j) = NT G u x m (m + j) := by
    unfold sy
    rw [if_neg (by omega), show 10 + x - 10 = x by omega]
  rw [this]
  exact NT_eq w hA u (by omega) (by omega) hx hr
theorem SV_let {u : Nat → Nat} {W : Nat → Nat → Nat → Nat} {L y m : Nat} {st : List Nat} (hy : y < 10) : SV u W L (y :: st) m = if m < L ∧ u m = y then SV u W L st (m + 1) else 0 := by
  rw [SV_cons]
  have hs : ∀ to, sy u W y m to = if to = m + 1 ∧ u m = y then 1 else 0 := by
    intro to
    unfold sy
    rw [if_pos hy]
  by_cases h : m < L ∧ u m = y
  · rw [if_pos h, rs_cut (a := m) (lo := m + 1) (hi := m + 1) (t := L) (by omega) (by omega) (Nat.le_refl _) (fun k _ hk => by rw [hs, if_neg (by omega), Nat.zero_mul]) (fun k hk _ => by rw [hs, if_neg (by omega), Nat.zero_mul]), show min (m + 1) L + 1 - (m + 1) = 0 + 1 by omega]
    show 0 + sy u W y m (m + 1 + 0) * SV u W L st (m + 1 + 0) = _
    rw [hs, if_pos ⟨rfl, h.2⟩, Nat.zero_add, Nat.one_mul, Nat.add_zero]
  · rw [if_neg h]
    refine rs_zero _ (fun j hj => ?_)
    rw [hs, if_neg, Nat.zero_mul]
    intro h2
    exact h ⟨by omega, h2.2⟩
theorem sat_add_le (a b : Nat) : sat (a + b) ≤ sat a + sat b := by unfold sat; omega
theorem sat_pS {G : Gr} {f : Nat → Nat} {x : Nat} : ∀ n, sat (pS G f x n) ≤ pS G (fun p => sat (f p)) x n
  | 0 => Nat.le_refl _
  | n + 1 => by
    show sat (pS G f x n + if G.2.1 n = x then f n else 0) ≤ pS G (fun p => sat (f p)) x n + if G.2.1 n = x then sat (f n) else 0
    have h1 := sat_pS (G := G) (f := f) (x := x) n
    by_cases h : G.2.1 n = x
    · rw [if_pos h, if_pos h]
      have := sat_add_le (pS G f x n) (f n)
      omega
    · rw [if_neg h, if_neg h]
      exact h1
theorem pS_find {G : Gr} {f : Nat → Nat} {x lf : Nat} : ∀ n, lf < pS G f x n → ∃ p, p < n ∧ G.2.1 p = x ∧ pS G f x p ≤ lf ∧ lf < pS G f x p + f p
  | 0, h => absurd h (Nat.not_lt_zero _)
  | n + 1, h => by
    have e : pS G f x (n + 1) = pS G f x n + if G.2.1 n = x then f n else 0 := rfl
    by_cases h1 : lf < pS G f x n
    · obtain ⟨p, hp, h2⟩ := pS_find n h1
      exact ⟨p, by omega, h2⟩
    · by_cases h2 : G.2.1 n = x
      · rw [e, if_pos h2] at h
        exact ⟨n, by omega, h2, by omega, h⟩
      · rw [e, if_neg h2] at h
        omega
theorem CH.ex {G : Gr} (w : WG G) (hA : ACY G) {u : Nat → Nat} {L x fr lf : Nat} {st : List Nat} (hL : L ≤ 8) (hm : fr ≤ L) (hx : x < 6) (hr : rI G 6 x = true) (h : lf < sat (SV u (NT G u) L ((10 + x) :: st) fr)) : lf < pS G (its G u L st fr) x G.1 := by
  have h1 : sat (SV u (NT G u) L ((10 + x) :: st) fr) = sat (pS G (fun p => SV u (NT G u) L (rh G p ++ st) fr) x G.1) := SV_non w hA hL hm hx hr
  rw [h1] at h
  exact Nat.lt_of_lt_of_le h (sat_pS G.1)
/-- symbols that may stand on a stack -/
def SY (G : Gr) (st : List Nat) : Prop := ∀ y, y ∈ st → y < 10 ∨ (10 ≤ y ∧ y < 16 ∧ rI G 6 (y - 10) = true)
theorem rhs_mem {G : Gr} {p y : Nat} : ∀ n i, y ∈ rhs G p n i → ∃ j, i ≤ j ∧ j < i + n ∧ y = G.2.2.2 p j
  | 0, i, h => by cases h
  | n + 1, i, h => by
    have h' : y ∈ G.2.2.2 p i :: rhs G p n (i + 1) := h
    rcases List.mem_cons.mp h' with h1 | h1
    · exact ⟨i, by omega, by omega, h1⟩
    · obtain ⟨j, h2, h3, h4⟩ := rhs_mem n (i + 1) h1
      exact ⟨j, by omega, by omega, h4⟩
theorem rhs_len {G : Gr} {p : Nat} : ∀ n i, (rhs G p n i).length = n
  | 0, _ => rfl
  | n + 1, i => by
    show (rhs G p n (i + 1)).length + 1 = n + 1
    rw [rhs_len n (i + 1)]
theorem SY.rh {G : Gr} (w : WG G) {p : Nat} {st : List Nat} (hp : p < G.1) (hr : rI G 6 (G.2.1 p) = true) (h : SY G st) : SY G (rh G p ++ st) := by
  intro y hy
  rcases List.mem_append.mp hy with h1 | h1
  · obtain ⟨j, _, h3, rfl⟩ := rhs_mem _ _ h1
    have hj : j < G.2.2.1 p := by omega
    have := sy16 w hp hj
    by_cases h10 : G.2.2.2 p j < 10
    · exact Or.inl h10
    · exact Or.inr ⟨by omega, this, rI_cl w hp hj hr (by omega)⟩
  · exact h y h1
/-- a stack and its ways, as rows hold them -/
def STK (A B : Nat → Nat → Prop) (u : Nat → Nat) (W : Nat → Nat → Nat → Nat) (L g : Nat) : List Nat → Prop
  | [] => ∀ m, g ≤ m → m ≤ L → B m (sat (SV u W L [] m))
  | y :: st => A st.length y ∧ (∀ m, g ≤ m → m ≤ L → B (9 * (st.length + 1) + m) (sat (SV u W L (y :: st) m))) ∧ STK A B u W L g st
theorem STK.mono {A B A' B' : Nat → Nat → Prop} {u : Nat → Nat} {W : Nat → Nat → Nat → Nat} {L g g' : Nat} (hL : L ≤ 8) (hg : g ≤ g') : ∀ (st : List Nat), (∀ i y, i < st.length → A i y → A' i y) → (∀ k v, k < 9 * (st.length + 1) → B k v → B' k v) → STK A B u W L g st → STK A' B' u W L g' st
  | [], _, hB, h => fun m h1 h2 => hB m _ (by show m < 9 * (0 + 1); omega) (h m (by omega) h2)
  | y :: st, hA, hB, h => by
    have el : (y :: st).length = st.length + 1 := rfl
    rw [el] at hA hB
    exact ⟨hA _ _ (by omega) h.1, fun m h1 h2 => hB _ _ (by omega) (h.2.1 m (by omega) h2), STK.mono hL hg st (fun i y hi => hA i y (by omega)) (fun k v hk => hB k v (by omega)) h.2.2⟩
/-- what lies right below the top -/
theorem STK.top {A B : Nat → Nat → Prop} {u : Nat → Nat} {W : Nat → Nat → Nat → Nat} {L g : Nat} : ∀ (st : List Nat), STK A B u W L g st → ∀ m, g ≤ m → m ≤ L → B (9 * st.length + m) (sat (SV u W L st m))
  | [], h, m, h1, h2 => by
    have := h m h1 h2
    rw [show 9 * ([] : List Nat).length + m = m by simp]
    exact this
  | y :: st, h, m, h1, h2 => h.2.1 m h1 h2
theorem RN.cg {G : Gr} {u : Nat → Nat} {L j : Nat} {ps ps' : Nat → Nat} : ∀ t {st fr lf c}, RN G u L j ps t st fr lf c → (∀ i, i < c → ps i = ps' i) → RN G u L j ps' t st fr lf c
  | 0, _, _, _, _, h, _ => h
  | t + 1, st, fr, lf, c, h, hp => by
    obtain ⟨s1, f1, l1, c1, r1, y, t0, e1, d1⟩ := h
    rcases d1 with ⟨k1, k2, k3, k4, k5⟩ | ⟨k1, k2, k3, k4, k5⟩
    · exact ⟨s1, f1, l1, c1, RN.cg t r1 (fun i hi => hp i (by omega)), y, t0, e1, Or.inl ⟨k1, k2, k3, k4, k5⟩⟩
    · have e := hp c1 (by omega)
      exact ⟨s1, f1, l1, c1, RN.cg t r1 (fun i hi => hp i (by omega)), y, t0, e1, Or.inr ⟨k1, by rw [← e]; exact k2, by rw [← e]; exact k3, k4, k5⟩⟩
/-- what holds at each turn of a listing -/
def CFg (G : Gr) (u : Nat → Nat) (L j : Nat) (ps : Nat → Nat) (st : List Nat) (fr lf c : Nat) : Prop := RN G u L j ps (c + fr) st fr lf c ∧ fr ≤ L ∧ st.length ≤ 1 + 4 * c ∧ SY G st ∧ lf < sat (SV u (NT G u) L st fr) ∧ lf ≤ j
theorem CFg.start {G : Gr} (w : WG G) {u : Nat → Nat} {L j : Nat} (ps : Nat → Nat) (h : j < NT G u (G.2.1 0) 0 L) : CFg G u L j ps [10 + G.2.1 0] 0 j 0 := by
  have h6 := lft6 w w.1.1
  have hr : rI G 6 (G.2.1 0) = true := by
    cases e : rI G 6 (G.2.1 0) with
    | true => rfl
    | false =>
      have : NT G u (G.2.1 0) 0 L = 0 := by unfold NT; rw [e]; rfl
      omega
  refine ⟨⟨rfl, rfl, rfl, rfl⟩, Nat.zero_le _, Nat.le_refl _, fun y hy => ?_, ?_, Nat.le_refl _⟩
  · rw [List.mem_singleton] at hy
    rw [hy]
    refine Or.inr ⟨by omega, by omega, ?_⟩
    rw [show 10 + G.2.1 0 - 10 = G.2.1 0 by omega]
    exact hr
  · have hl : SV u (NT G u) L [10 + G.2.1 0] 0 = NT G u (G.2.1 0) 0 L := by
      rw [SV_cons]
      have hs : ∀ to, sy u (NT G u) (10 + G.2.1 0) 0 to = NT G u (G.2.1 0) 0 to := by
        intro to
        unfold sy
        rw [if_neg (by omega), show 10 + G.2.1 0 - 10 = G.2.1 0 by omega]
      have hn : ∀ to, SV u (NT G u) L [] to = if to = L then 1 else 0 := fun _ => rfl
      rw [Nat.sub_zero, show L + 1 = L + 1 - 0 from rfl, rs_cut (a := 0) (lo := L) (hi := L) (t := L) (by omega) (by omega) (Nat.le_refl _) (fun k _ hk => by rw [hn, if_neg (by omega), Nat.mul_zero]) (fun k hk hk2 => by omega), show min L L + 1 - L = 0 + 1 by omega]
      show 0 + sy u (NT G u) (10 + G.2.1 0) 0 (L + 0) * SV u (NT G u) L [] (L + 0) = _
      rw [hs, hn, Nat.add_zero, if_pos rfl, Nat.zero_add, Nat.mul_one]
    rw [hl, sat_id (NT_le _ _ _ _ _)]
    exact h
/-- a letter on top -/
theorem CFg.letter {G : Gr} {u : Nat → Nat} {L j : Nat} {ps : Nat → Nat} {y : Nat} {st : List Nat} {fr lf c : Nat} (h : CFg G u L j ps (y :: st) fr lf c) (hy : y < 10) : CFg G u L j ps st (fr + 1) lf c := by
  obtain ⟨h1, h2, h3, h4, h5, h6⟩ := h
  have h3' : st.length + 1 ≤ 1 + 4 * c := h3
  rw [SV_let hy] at h5
  by_cases hc : fr < L ∧ u fr = y
  · rw [if_pos hc] at h5
    exact ⟨⟨y :: st, fr, lf, c, h1, y, st, rfl, Or.inl ⟨hy, rfl, rfl, rfl, rfl⟩⟩, by omega, by omega, fun z hz => h4 z (List.mem_cons_of_mem _ hz), h5, h6⟩
  · rw [if_neg hc] at h5
    exact absurd h5 (Nat.not_lt_zero _)
/-- a nonterminal on top, and the production that is chosen -/
theorem CFg.step {G : Gr} (w : WG G) {u : Nat → Nat} {L j : Nat} {ps : Nat → Nat} {y : Nat} {st : List Nat} {fr lf c p lf' : Nat} (h : CFg G u L j ps (y :: st) fr lf c) (hy : ¬ y < 10) (hc : CH G u L (y - 10) st fr lf p lf') : CFg G u L j (fun i => if i = c then p else ps i) (rh G p ++ st) fr lf' (c + 1) := by
  obtain ⟨h1, h2, h3, h4, h5, h6⟩ := h
  have h3' : st.length + 1 ≤ 1 + 4 * c := h3
  obtain ⟨c1, c2, c3, c4⟩ := id hc
  have hl := (w.2.1 p c1).2
  refine ⟨?_, h2, ?_, ?_, c3, by omega⟩
  · rw [show c + 1 + fr = (c + fr) + 1 by omega]
    refine ⟨y :: st, fr, lf, c, RN.cg _ h1 (fun i hi => by rw [if_neg (by omega)]), y, st, rfl, Or.inr ⟨by omega, ?_, ?_, rfl, rfl⟩⟩
    · dsimp only
      rw [if_pos rfl]
      exact hc
    · dsimp only
      rw [if_pos rfl]
  · rw [List.length_append]
    have : (rh G p).length = G.2.2.1 p := rhs_len _ _
    omega
  · refine SY.rh w c1 ?_ (fun z hz => h4 z (List.mem_cons_of_mem _ hz))
    rcases h4 y (List.mem_cons_self) with h | ⟨_, _, h⟩
    · exact absurd h hy
    · rw [c2]; exact h
theorem CFg.nil {G : Gr} {u : Nat → Nat} {L j : Nat} {ps : Nat → Nat} {fr lf c : Nat} (h : CFg G u L j ps [] fr lf c) : fr = L := by
  have h5 := h.2.2.2.2.1
  have : SV u (NT G u) L [] fr = if fr = L then 1 else 0 := rfl
  rw [this] at h5
  by_cases e : fr = L
  · exact e
  · rw [if_neg e] at h5
    exact absurd h5 (Nat.not_lt_zero _)
