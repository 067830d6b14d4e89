/-! ===== READING A GRAMMAR: an automaton over the bytes ===== -/
abbrev Ro : Type := (Nat × Nat × Gr) ⊕ (Nat × Nat)
def addP (G : Gr) (x : Nat) : Gr := (G.1 + 1, (fun p => if p = G.1 then x else G.2.1 p), (fun p => if p = G.1 then 0 else G.2.2.1 p), G.2.2.2)
def addS (G : Gr) (y : Nat) : Gr := (G.1, G.2.1, (fun p => if p = G.1 - 1 then G.2.2.1 p + 1 else G.2.2.1 p), (fun p i => if p = G.1 - 1 ∧ i = G.2.2.1 p then y else G.2.2.2 p i))
def opn (x : Nat) (G : Gr) (i : Nat) : Ro := if G.1 = 16 then .inr (3, i + 1) else .inl (2, x, addP G x)
def apn (x : Nat) (G : Gr) (y i : Nat) : Ro := if G.2.2.1 (G.1 - 1) = 5 then .inr (4, i) else .inl (2, x, addS G y)
def stp (m x : Nat) (G : Gr) (c i : Nat) : Ro :=
  if m = 0 then (if 65 ≤ c ∧ c < 71 then (if dfb G (c - 65) = true then .inr (2, i) else .inl (1, c - 65, G)) else .inr (1, i))
  else if m = 1 then (if c = 61 then opn x G i else .inr (1, i))
  else if c = 124 then opn x G i
  else if c = 59 then .inl (0, x, G)
  else if 65 ≤ c ∧ c < 71 then apn x G (10 + (c - 65)) i
  else if 97 ≤ c ∧ c < 102 then apn x G (c - 97) i
  else .inr (1, i)
def G00 : Gr := (0, fun _ => 0, fun _ => 0, fun _ _ => 0)
def nxR (o : Ro) (c i : Nat) : Ro :=
  match o with
  | .inl (m, x, G) => stp m x G c i
  | .inr f => .inr f
def rnA (tx : Nat → Nat) : Nat → Ro
  | 0 => .inl (0, 0, G00)
  | i + 1 => nxR (rnA tx i) (tx i) i
theorem rnA_s {tx : Nat → Nat} {i m x : Nat} {G : Gr} (h : rnA tx i = .inl (m, x, G)) : rnA tx (i + 1) = stp m x G (tx i) i := by
  show nxR (rnA tx i) (tx i) i = _
  rw [h]
  rfl
theorem rnA_f {tx : Nat → Nat} {i : Nat} {f : Nat × Nat} (h : rnA tx i = .inr f) : ∀ d, rnA tx (i + d) = .inr f
  | 0 => h
  | d + 1 => by
    show nxR (rnA tx (i + d)) (tx (i + d)) (i + d) = _
    rw [rnA_f h d]
    rfl
theorem rnA_le {tx : Nat → Nat} {i L : Nat} {f : Nat × Nat} (h : rnA tx i = .inr f) (hL : i ≤ L) : rnA tx L = .inr f := by
  have := rnA_f h (L - i)
  rw [show i + (L - i) = L by omega] at this
  exact this
theorem rnA_ok {tx : Nat → Nat} {i L : Nat} {a : Nat × Nat × Gr} (h : rnA tx L = .inl a) (hi : i ≤ L) : ∃ m x G, rnA tx i = .inl (m, x, G) := by
  cases e : rnA tx i with
  | inl b => exact ⟨b.1, b.2.1, b.2.2, rfl⟩
  | inr f =>
    rw [rnA_le e hi] at h
    cases h
/-! what is defined -/
theorem dfb_P {G : Gr} {l x : Nat} : dfb (addP G l) x = (dfb G x || decide (x = l)) := by
  rw [Bool.eq_iff_iff, Bool.or_eq_true, decide_eq_true_eq, dfb_iff, dfb_iff]
  constructor
  · rintro ⟨p, hp, e⟩
    have hp' : p < G.1 + 1 := hp
    have e' : (if p = G.1 then l else G.2.1 p) = x := e
    by_cases h : p = G.1
    · rw [if_pos h] at e'; exact Or.inr e'.symm
    · rw [if_neg h] at e'; exact Or.inl ⟨p, by omega, e'⟩
  · rintro (⟨p, hp, e⟩ | e)
    · refine ⟨p, Nat.lt_succ_of_lt hp, ?_⟩
      show (if p = G.1 then l else G.2.1 p) = x
      rw [if_neg (by omega)]
      exact e
    · refine ⟨G.1, Nat.lt_succ_self _, ?_⟩
      show (if G.1 = G.1 then l else G.2.1 G.1) = x
      rw [if_pos rfl]
      exact e.symm
theorem dfb_S {G : Gr} {y x : Nat} : dfb (addS G y) x = dfb G x := by
  rw [Bool.eq_iff_iff, dfb_iff, dfb_iff]
  exact Iff.rfl
theorem dfb_0 {x : Nat} : dfb G00 x = false := by
  cases h : dfb G00 x with
  | false => rfl
  | true =>
    obtain ⟨p, hp, _⟩ := dfb_iff.mp h
    exact absurd hp (Nat.not_lt_zero p)
/-- a nonterminal stands in a right side here -/
def us (tx : Nat → Nat) (j x : Nat) : Prop := (∃ l G, rnA tx j = .inl (2, l, G)) ∧ tx j = 65 + x
/-- what holds of a grammar that is being read -/
def PW (tx : Nat → Nat) (i m l : Nat) (G : Gr) : Prop := G.1 ≤ 16 ∧ (∀ p, p < G.1 → G.2.1 p < 6 ∧ G.2.2.1 p ≤ 5) ∧ (∀ p k, p < G.1 → k < G.2.2.1 p → G.2.2.2 p k < 5 ∨ (10 ≤ G.2.2.2 p k ∧ G.2.2.2 p k < 16 ∧ ∃ j, j < i ∧ us tx j (G.2.2.2 p k - 10))) ∧ (∀ p q r, p ≤ q → q ≤ r → r < G.1 → G.2.1 p = G.2.1 r → G.2.1 q = G.2.1 p) ∧ m ≤ 2 ∧ (1 ≤ m → l < 6) ∧ (m = 1 → dfb G l = false) ∧ (m = 2 → 1 ≤ G.1 ∧ G.2.1 (G.1 - 1) = l)
theorem PW.wk {tx : Nat → Nat} {i m l : Nat} {G : Gr} (h : PW tx i m l G) : ∀ p k, p < G.1 → k < G.2.2.1 p → G.2.2.2 p k < 5 ∨ (10 ≤ G.2.2.2 p k ∧ G.2.2.2 p k < 16 ∧ ∃ j, j < i + 1 ∧ us tx j (G.2.2.2 p k - 10)) := by
  intro p k hp hk
  rcases h.2.2.1 p k hp hk with h1 | ⟨h1, h2, j, h3, h4⟩
  · exact Or.inl h1
  · exact Or.inr ⟨h1, h2, j, by omega, h4⟩
theorem PW.o2 {tx : Nat → Nat} {i m l m' l' : Nat} {G G' : Gr} (h : PW tx i m l G) (hl : l < 6) (hc : dfb G l = true → 1 ≤ G.1 ∧ G.2.1 (G.1 - 1) = l) (e : opn l G i = .inl (m', l', G')) : PW tx (i + 1) m' l' G' := by
  unfold opn at e
  by_cases h16 : G.1 = 16
  · rw [if_pos h16] at e; cases e
  · rw [if_neg h16] at e
    injection e with e
    injection e with e1 e
    injection e with e2 e3
    subst e1; subst e2; subst e3
    have hw := h.wk
    obtain ⟨h1, h2, h3, h4, h5, h6, h7, h8⟩ := h
    refine ⟨?_, fun p hp => ?_, fun p k hp hk => ?_, fun p q r hpq hqr hr he => ?_, Nat.le_refl _, fun _ => hl, fun h => by omega, fun _ => ⟨?_, ?_⟩⟩
    · show G.1 + 1 ≤ 16
      omega
    · have hp' : p < G.1 + 1 := hp
      show (if p = G.1 then l else G.2.1 p) < 6 ∧ (if p = G.1 then 0 else G.2.2.1 p) ≤ 5
      by_cases ep : p = G.1
      · rw [if_pos ep, if_pos ep]; exact ⟨hl, by omega⟩
      · rw [if_neg ep, if_neg ep]; exact h2 p (by omega)
    · have hp' : p < G.1 + 1 := hp
      have hk' : k < (if p = G.1 then 0 else G.2.2.1 p) := hk
      by_cases ep : p = G.1
      · rw [if_pos ep] at hk'; omega
      · rw [if_neg ep] at hk'; exact hw p k (by omega) hk'
    · have hr' : r < G.1 + 1 := hr
      have he' : (if p = G.1 then l else G.2.1 p) = (if r = G.1 then l else G.2.1 r) := he
      show (if q = G.1 then l else G.2.1 q) = (if p = G.1 then l else G.2.1 p)
      by_cases er : r = G.1
      · rw [if_pos er] at he'
        by_cases eq : q = G.1
        · rw [if_pos eq, he']
        · have ep : ¬ p = G.1 := by omega
          rw [if_neg eq, if_neg ep]
          rw [if_neg ep] at he'
          have hd : dfb G l = true := dfb_iff.mpr ⟨p, by omega, he'⟩
          obtain ⟨c1, c2⟩ := hc hd
          exact h4 p q (G.1 - 1) hpq (by omega) (by omega) (by rw [he', c2])
      · rw [if_neg er] at he'
        have eq : ¬ q = G.1 := by omega
        have ep : ¬ p = G.1 := by omega
        rw [if_neg ep] at he'
        rw [if_neg eq, if_neg ep]
        exact h4 p q r hpq hqr (by omega) he'
    · show 1 ≤ G.1 + 1
      omega
    · show (if G.1 + 1 - 1 = G.1 then l else _) = l
      rw [if_pos (by omega)]
theorem PW.a2 {tx : Nat → Nat} {i l y m' l' : Nat} {G G' : Gr} (h : PW tx i 2 l G) (hy : y < 5 ∨ (10 ≤ y ∧ y < 16 ∧ us tx i (y - 10))) (e : apn l G y i = .inl (m', l', G')) : PW tx (i + 1) m' l' G' := by
  unfold apn at e
  by_cases h5 : G.2.2.1 (G.1 - 1) = 5
  · rw [if_pos h5] at e; cases e
  · rw [if_neg h5] at e
    injection e with e
    injection e with e1 e
    injection e with e2 e3
    subst e1; subst e2; subst e3
    have hw := h.wk
    obtain ⟨h1, h2, h3, h4, h5', h6, h7, h8⟩ := h
    obtain ⟨g1, g2⟩ := h8 rfl
    refine ⟨h1, fun p hp => ?_, fun p k hp hk => ?_, h4, Nat.le_refl _, h6, fun h => by omega, h8⟩
    · have hp' : p < G.1 := hp
      have := h2 p hp'
      show G.2.1 p < 6 ∧ (if p = G.1 - 1 then G.2.2.1 p + 1 else G.2.2.1 p) ≤ 5
      by_cases ep : p = G.1 - 1
      · rw [if_pos ep]
        rw [← ep] at h5
        omega
      · rw [if_neg ep]; exact this
    · have hp' : p < G.1 := hp
      have hk' : k < (if p = G.1 - 1 then G.2.2.1 p + 1 else G.2.2.1 p) := hk
      show (if p = G.1 - 1 ∧ k = G.2.2.1 p then y else G.2.2.2 p k) < 5 ∨ (10 ≤ (if p = G.1 - 1 ∧ k = G.2.2.1 p then y else G.2.2.2 p k) ∧ (if p = G.1 - 1 ∧ k = G.2.2.1 p then y else G.2.2.2 p k) < 16 ∧ ∃ j, j < i + 1 ∧ us tx j ((if p = G.1 - 1 ∧ k = G.2.2.1 p then y else G.2.2.2 p k) - 10))
      by_cases ep : p = G.1 - 1 ∧ k = G.2.2.1 p
      · rw [if_pos ep]
        rcases hy with a | ⟨a, b, c⟩
        · exact Or.inl a
        · exact Or.inr ⟨a, b, i, by omega, c⟩
      · rw [if_neg ep]
        refine hw p k hp' ?_
        by_cases e1 : p = G.1 - 1
        · rw [if_pos e1] at hk'
          omega
        · rw [if_neg e1] at hk'
          exact hk'
theorem PW.all {tx : Nat → Nat} : ∀ i {m l G}, rnA tx i = .inl (m, l, G) → PW tx i m l G
  | 0, m, l, G, h => by
    have h' : (Sum.inl (0, 0, G00) : Ro) = .inl (m, l, G) := h
    injection h' with e
    injection e with e1 e
    injection e with e2 e3
    subst e1; subst e2; subst e3
    exact ⟨Nat.zero_le _, fun p hp => absurd hp (Nat.not_lt_zero p), fun p k hp => absurd hp (Nat.not_lt_zero p), fun p q r _ _ hr => absurd hr (Nat.not_lt_zero r), by omega, fun h => by omega, fun h => by omega, fun h => by omega⟩
  | i + 1, m', l', G', h => by
    cases e : rnA tx i with
    | inr f =>
      rw [rnA_le e (Nat.le_succ i)] at h
      cases h
    | inl a =>
      obtain ⟨m, l, G⟩ := a
      have hP := PW.all i e
      rw [rnA_s e] at h
      have hw := hP.wk
      obtain ⟨h1, h2, h3, h4, h5, h6, h7, h8⟩ := id hP
      unfold stp at h
      by_cases c0 : m = 0
      · rw [if_pos c0] at h
        by_cases cn : 65 ≤ tx i ∧ tx i < 71
        · rw [if_pos cn] at h
          by_cases cd : dfb G (tx i - 65) = true
          · rw [if_pos cd] at h; cases h
          · rw [if_neg cd] at h
            injection h with h
            injection h with e1 h
            injection h with e2 e3
            subst e1; subst e2; subst e3
            exact ⟨h1, h2, hw, h4, by omega, fun _ => by omega, fun _ => by simpa using cd, fun h => by omega⟩
        · rw [if_neg cn] at h; cases h
      · rw [if_neg c0] at h
        by_cases c1 : m = 1
        · rw [if_pos c1] at h
          by_cases cq : tx i = 61
          · rw [if_pos cq] at h
            refine hP.o2 (h6 (by omega)) (fun hd => ?_) h
            rw [h7 c1] at hd
            cases hd
          · rw [if_neg cq] at h; cases h
        · rw [if_neg c1] at h
          have c2 : m = 2 := by omega
          subst c2
          by_cases ca : tx i = 124
          · rw [if_pos ca] at h
            exact hP.o2 (h6 (by omega)) (fun _ => h8 rfl) h
          · rw [if_neg ca] at h
            by_cases cs : tx i = 59
            · rw [if_pos cs] at h
              injection h with h
              injection h with e1 h
              injection h with e2 e3
              subst e1; subst e2; subst e3
              exact ⟨h1, h2, hw, h4, by omega, fun h => by omega, fun h => by omega, fun h => by omega⟩
            · rw [if_neg cs] at h
              by_cases cn : 65 ≤ tx i ∧ tx i < 71
              · rw [if_pos cn] at h
                refine hP.a2 (Or.inr ⟨by omega, by omega, ⟨l, G, e⟩, ?_⟩) h
                omega
              · rw [if_neg cn] at h
                by_cases cl : 97 ≤ tx i ∧ tx i < 102
                · rw [if_pos cl] at h
                  exact hP.a2 (Or.inl (by omega)) h
                · rw [if_neg cl] at h; cases h
/-! outcomes -/
/-- an undefined nonterminal stands in a right side here -/
def UND (tx : Nat → Nat) (G : Gr) (i : Nat) : Prop := ∃ x, x < 6 ∧ us tx i x ∧ dfb G x = false
/-- a fault before the end, or at it -/
def FT1 (tx : Nat → Nat) (L k p : Nat) : Prop := rnA tx L = .inr (k, p) ∨ (k = 1 ∧ p = L ∧ ∃ m l G, rnA tx L = .inl (m, l, G) ∧ (m ≠ 0 ∨ G.1 = 0))
/-- what load() finds: a fault, or a grammar -/
def OF (tx : Nat → Nat) (L k p : Nat) : Prop := FT1 tx L k p ∨ (k = 5 ∧ p < L ∧ ∃ l G, rnA tx L = .inl (0, l, G) ∧ G.1 ≠ 0 ∧ UND tx G p ∧ ∀ i, i < p → ¬ UND tx G i)
def OO (tx : Nat → Nat) (L : Nat) (G : Gr) : Prop := ∃ l, rnA tx L = .inl (0, l, G) ∧ G.1 ≠ 0 ∧ ∀ i, i < L → ¬ UND tx G i
theorem OF.no {tx : Nat → Nat} {L k p : Nat} {G : Gr} (h : OF tx L k p) (h' : OO tx L G) : False := by
  obtain ⟨l, e, h0, hn⟩ := h'
  rcases h with (h | ⟨_, _, m, l2, G2, h, hm⟩) | ⟨_, hp, l2, G2, h, _, hu, _⟩
  · rw [e] at h; cases h
  · rw [e] at h
    injection h with h
    injection h with e1 h
    injection h with e2 e3
    subst e1; subst e3
    rcases hm with hm | hm
    · exact hm rfl
    · exact h0 hm
  · rw [e] at h
    injection h with h
    injection h with e1 h
    injection h with e2 e3
    subst e3
    exact hn p hp hu
theorem OF.uniq {tx : Nat → Nat} {L k p k' p' : Nat} (h : OF tx L k p) (h' : OF tx L k' p') : k = k' ∧ p = p' := by
  rcases h with (h | ⟨rfl, rfl, m, l, G, h, hm⟩) | ⟨rfl, hp, l, G, h, h0, hu, hn⟩
  · rcases h' with (h' | ⟨rfl, rfl, m2, l2, G2, h', hm'⟩) | ⟨rfl, hp', l2, G2, h', h0', hu', hn'⟩
    · rw [h] at h'
      injection h' with h'
      injection h' with e1 e2
      exact ⟨e1, e2⟩
    · rw [h] at h'; cases h'
    · rw [h] at h'; cases h'
  · rcases h' with (h' | ⟨rfl, rfl, m2, l2, G2, h', hm'⟩) | ⟨rfl, hp', l2, G2, h', h0', hu', hn'⟩
    · rw [h] at h'; cases h'
    · exact ⟨rfl, rfl⟩
    · rw [h] at h'
      injection h' with h'
      injection h' with e1 h'
      injection h' with e2 e3
      subst e1; subst e3
      rcases hm with hm | hm
      · exact absurd rfl hm
      · exact absurd hm h0'
  · rcases h' with (h' | ⟨rfl, rfl, m2, l2, G2, h', hm'⟩) | ⟨rfl, hp', l2, G2, h', h0', hu', hn'⟩
    · rw [h] at h'; cases h'
    · rw [h] at h'
      injection h' with h'
      injection h' with e1 h'
      injection h' with e2 e3
      subst e1; subst e3
      rcases hm' with hm | hm
      · exact absurd rfl hm
      · exact absurd hm h0
    · rw [h] at h'
      injection h' with h'
      injection h' with e1 h'
      injection h' with e2 e3
      subst e3
      refine ⟨rfl, ?_⟩
      rcases Nat.lt_trichotomy p p' with h1 | h1 | h1
      · exact absurd hu (hn' p h1)
      · exact h1
      · exact absurd hu' (hn p' h1)
theorem OO.uniq {tx : Nat → Nat} {L : Nat} {G G' : Gr} (h : OO tx L G) (h' : OO tx L G') : G = G' := by
  obtain ⟨l, e, _⟩ := h
  obtain ⟨l', e', _⟩ := h'
  rw [e] at e'
  injection e' with e'
  injection e' with e1 e'
  injection e' with e2 e3
theorem OO.wg {tx : Nat → Nat} {L : Nat} {G : Gr} (h : OO tx L G) : WG G := by
  obtain ⟨l, e, h0, hn⟩ := h
  obtain ⟨h1, h2, h3, h4, _⟩ := PW.all L e
  refine ⟨⟨by omega, h1⟩, h2, fun p i hp hi => ?_, h4⟩
  rcases h3 p i hp hi with a | ⟨a, b, j, c, d⟩
  · exact Or.inl a
  · refine Or.inr ⟨a, b, ?_⟩
    cases hd : dfb G (G.2.2.2 p i - 10) with
    | true => exact dfb_iff.mp hd
    | false => exact absurd ⟨_, by omega, d, hd⟩ (hn j c)
theorem stp0 {x : Nat} {G : Gr} {c i : Nat} : stp 0 x G c i = if 65 ≤ c ∧ c < 71 then (if dfb G (c - 65) = true then .inr (2, i) else .inl (1, c - 65, G)) else .inr (1, i) := rfl
theorem stp1 {x : Nat} {G : Gr} {c i : Nat} : stp 1 x G c i = if c = 61 then opn x G i else .inr (1, i) := rfl
theorem stp2 {x : Nat} {G : Gr} {c i : Nat} : stp 2 x G c i = if c = 124 then opn x G i else if c = 59 then .inl (0, x, G) else if 65 ≤ c ∧ c < 71 then apn x G (10 + (c - 65)) i else if 97 ≤ c ∧ c < 102 then apn x G (c - 97) i else .inr (1, i) := rfl
theorem opn_m {x : Nat} {G : Gr} {i m l : Nat} {G' : Gr} (h : opn x G i = .inl (m, l, G')) : m = 2 := by
  unfold opn at h
  by_cases c : G.1 = 16
  · rw [if_pos c] at h; cases h
  · rw [if_neg c] at h
    injection h with h
    injection h with e1 _
    exact e1.symm
theorem apn_m {x : Nat} {G : Gr} {y i m l : Nat} {G' : Gr} (h : apn x G y i = .inl (m, l, G')) : m = 2 := by
  unfold apn at h
  by_cases c : G.2.2.1 (G.1 - 1) = 5
  · rw [if_pos c] at h; cases h
  · rw [if_neg c] at h
    injection h with h
    injection h with e1 _
    exact e1.symm
/-- in a text that is read to its end, uses are the nonterminals that no '=' follows -/
theorem us_iff {tx : Nat → Nat} {L l : Nat} {G : Gr} (h : rnA tx L = .inl (0, l, G)) {i : Nat} (hi : i < L) : (∃ x, x < 6 ∧ us tx i x) ↔ (65 ≤ tx i ∧ tx i < 71 ∧ ¬ (i + 1 < L ∧ tx (i + 1) = 61)) := by
  obtain ⟨m, x, G1, e⟩ := rnA_ok h (show i ≤ L by omega)
  obtain ⟨m2, x2, G2, e2⟩ := rnA_ok h (show i + 1 ≤ L by omega)
  have hP := PW.all i e
  have hm := hP.2.2.2.2.1
  have s1 := rnA_s e
  rw [e2] at s1
  have notL : m2 ≠ 0 → i + 1 < L := by
    intro hne
    rcases Nat.lt_or_ge (i + 1) L with h1 | h1
    · exact h1
    · exfalso
      have : i + 1 = L := by omega
      rw [this, h] at e2
      injection e2 with e2
      injection e2 with e3 _
      exact hne e3.symm
  have : m = 0 ∨ m = 1 ∨ m = 2 := by omega
  rcases this with rfl | rfl | rfl
  · constructor
    · rintro ⟨y, _, ⟨l', G', e'⟩, _⟩
      rw [e] at e'
      injection e' with e'
      injection e' with e1 _
      exact absurd e1 (by decide)
    · rintro ⟨a, b, c⟩
      exfalso
      rw [stp0, if_pos ⟨a, b⟩] at s1
      by_cases cd : dfb G1 (tx i - 65) = true
      · rw [if_pos cd] at s1; cases s1
      · rw [if_neg cd] at s1
        injection s1 with s1
        injection s1 with e1 s1
        subst e1
        have hlt := notL (by decide)
        obtain ⟨m3, x3, G3, e3⟩ := rnA_ok h (show i + 1 + 1 ≤ L by omega)
        have s2 := rnA_s e2
        rw [e3, stp1] at s2
        by_cases c61 : tx (i + 1) = 61
        · exact c ⟨hlt, c61⟩
        · rw [if_neg c61] at s2; cases s2
  · constructor
    · rintro ⟨y, _, ⟨l', G', e'⟩, _⟩
      rw [e] at e'
      injection e' with e'
      injection e' with e1 _
      exact absurd e1 (by decide)
    · rintro ⟨a, b, c⟩
      exfalso
      rw [stp1, if_neg (by omega)] at s1
      cases s1
  · constructor
    · rintro ⟨y, hy, ⟨l', G', e'⟩, ey⟩
      refine ⟨by omega, by omega, ?_⟩
      rintro ⟨hlt, c61⟩
      rw [stp2, if_neg (by omega), if_neg (by omega), if_pos (by omega)] at s1
      have hm2 := apn_m s1.symm
      subst hm2
      obtain ⟨m3, x3, G3, e3⟩ := rnA_ok h (show i + 1 + 1 ≤ L by omega)
      have s2 := rnA_s e2
      rw [e3, stp2, if_neg (by omega), if_neg (by omega), if_neg (by omega), if_neg (by omega)] at s2
      cases s2
    · rintro ⟨a, b, c⟩
      exact ⟨tx i - 65, by omega, ⟨x, G1, e⟩, by omega⟩
