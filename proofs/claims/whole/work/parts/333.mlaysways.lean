/-! ===== the reference: all counts of a word ===== -/
/-- what both tables hold in the end -/
def NT (G : Gr) (u : Nat → Nat) (x a b : Nat) : Nat := if rI G 6 x = true then sat (NN G u x a b) else 0
/-- the table when these pieces have been done -/
def Vk (G : Gr) (u : Nat → Nat) (L m f : Nat) : Nat → Nat → Nat → Nat := fun x a b => if b ≤ L ∧ (b - a < m ∨ (b - a = m ∧ a < f)) then NT G u x a b else 0
theorem NT_le (G : Gr) (u : Nat → Nat) (x a b : Nat) : NT G u x a b ≤ 1000000000 := by
  unfold NT
  by_cases h : rI G 6 x = true
  · rw [if_pos h]; exact sat_le _
  · rw [if_neg h]; exact Nat.zero_le _
theorem NT_F {G : Gr} (w : WG G) (u : Nat → Nat) : FP (fw G 1000000) (NT G u) := by
  intro x a b hab hn
  unfold NT at hn
  by_cases h : rI G 6 x = true
  · rw [if_pos h] at hn
    exact NN_F w u x a b hab (fun e => hn (by rw [e]; rfl))
  · rw [if_neg h] at hn; exact absurd rfl hn
theorem NT_r {G : Gr} {u : Nat → Nat} {x a b : Nat} (h : rI G 6 x = true) : NT G u x a b = sat (NN G u x a b) := if_pos h
theorem Vk_le (G : Gr) (u : Nat → Nat) (L m f x a b : Nat) : Vk G u L m f x a b ≤ 1000000000 := by
  unfold Vk
  by_cases h : b ≤ L ∧ (b - a < m ∨ (b - a = m ∧ a < f))
  · rw [if_pos h]; exact NT_le _ _ _ _ _
  · rw [if_neg h]; exact Nat.zero_le _
theorem Vk_F {G : Gr} (w : WG G) (u : Nat → Nat) (L m f : Nat) : FP (fw G 1000000) (Vk G u L m f) := by
  intro x a b hab hn
  unfold Vk at hn
  by_cases h : b ≤ L ∧ (b - a < m ∨ (b - a = m ∧ a < f))
  · rw [if_pos h] at hn; exact NT_F w u x a b hab hn
  · rw [if_neg h] at hn; exact absurd rfl hn
theorem wgh_le (G : Gr) (u : Nat → Nat) (V : Nat → Nat → Nat → Nat) (a b x n : Nat) : wgh G u V a b x n ≤ 1000000000 := by
  unfold wgh
  by_cases h : rI G 6 x = true
  · rw [if_pos h]; exact sat_le _
  · rw [if_neg h]; exact Nat.zero_le _
theorem wgh_F {G : Gr} (w : WG G) {u : Nat → Nat} {V : Nat → Nat → Nat → Nat} (hF : FP (fw G 1000000) V) {a b x : Nat} (hn : wgh G u V a b x G.1 ≠ 0) : fw G 1000000 x ≤ b - a := by
  unfold wgh at hn
  by_cases h : rI G 6 x = true
  · rw [if_pos h] at hn
    obtain ⟨p, hp, hx, hs⟩ := pS_ne _ (fun e => hn (by rw [e]; rfl))
    have h1 := sL_F hF _ _ hs
    have h2 := fw_cl w 1000000 hp
    rw [hx] at h2
    omega
  · rw [if_neg h] at hn; exact absurd rfl hn
theorem laysWays_m {G : Gr} {s : PH} {u : Nat → Nat} {L : Nat} (hM : MLd G s) (w : WG G) (hA : ACY G) (hu : UT u L s) (hu5 : ∀ i, i < L → u i < 5) (hL : L ≤ 8) (hl : s.1 148 24 = nI L) {n : Nat} (hn : 500 ≤ n) : wp (fX12_laysWays n s) (fun _ t => Fr isD4 s t ∧ ∀ x a b, x < 6 → a ≤ b → b ≤ L → t.2.1 168 (81 * x + 9 * a + b) = lN (NT G u x a b)) := by
  unfold fX12_laysWays
  simp only [lt_def]
  refine wp_for2 486 (by omega) (fun j t => Fr isD4 s t ∧ ∀ k, k < j → t.2.1 168 k = lN 0) ?_ ?_ n 0 s (by omega) ⟨Fr.rf, fun x hx => absurd hx (Nat.not_lt_zero x)⟩ (by omega)
  · rintro rec j t hj ⟨hf, h0⟩ ih
    simp (disch := omega) only [le_ok, if_neg, wa_ok, cl_ok, nI_add]
    refine ih _ ⟨hf.tr (Fr.sl (by unfold isD4; omega)), fun k hk => ?_⟩
    rw [sl_q]
    dsimp only
    by_cases e : k = j
    · rw [if_pos e]; exact lN0
    · rw [if_neg e]; exact h0 k (by omega)
  · rintro rec t ⟨hf, h0⟩
    simp (disch := omega) only [le_ok, if_pos]
    refine wp_for2 (L + 1) (by omega) (fun m t => Fr isD4 s t ∧ WT (Vk G u L m 0) t) ?_ ?_ n 0 t (by omega) ⟨hf, fun x a b h1 h2 h3 => ?_⟩ (by omega)
    · rintro rec2 m t hm ⟨hf, hW⟩ ih2
      have hlt : t.1 148 24 = nI L := by rw [(hf 148 (by unfold isD4; omega)).1]; exact hl
      simp (disch := omega) only [hlt, lt_ok, if_neg]
      refine wp_for2 (L + 1 - m) (by omega) (fun a t => Fr isD4 s t ∧ WT (Vk G u L m a) t) ?_ ?_ n 0 t (by omega) ⟨hf, hW⟩ (by omega)
      · rintro rec3 a t ha ⟨hf, hW⟩ ih3
        have hlt : t.1 148 24 = nI L := by rw [(hf 148 (by unfold isD4; omega)).1]; exact hl
        simp (disch := omega) only [hlt, nI_add, lt_ok, if_neg]
        refine wp_for2 7 (by omega) (fun r t => Fr isD4 s t ∧ ∃ f : Nat → Nat, WT (upT (Vk G u L m a) a (a + m) f) t ∧ (∀ x, f x ≤ 1000000000) ∧ (∀ x, f x ≠ 0 → fw G 1000000 x ≤ m) ∧ (∀ x, x < 6 → rI G 6 x = true → zal G x < r → f x = sat (NN G u x a (a + m))) ∧ ∀ x, ¬ rI G 6 x = true → f x = 0) ?_ ?_ n 0 t (by omega) ⟨hf, fun _ => 0, fun x c d h1 h2 h3 => ?_, fun _ => Nat.zero_le _, fun _ h => absurd rfl h, fun x _ _ h => absurd h (Nat.not_lt_zero _), fun _ _ => rfl⟩ (by omega)
        · rintro rec4 r t hr ⟨hf, f, hW, f1, f2, f3, f4⟩ ih4
          have hMt : MLd G t := hM.fr hf (fun q hq => by unfold isD4; omega)
          have hut : UT u L t := fun i hi => by rw [(hf 166 (by unfold isD4; omega)).1]; exact hu i hi
          have hVb : ∀ x c d, upT (Vk G u L m a) a (a + m) f x c d ≤ 1000000000 := by
            intro x c d
            unfold upT
            by_cases h : c = a ∧ d = a + m
            · rw [if_pos h]; exact f1 x
            · rw [if_neg h]; exact Vk_le _ _ _ _ _ _ _ _
          have hVF : FP (fw G 1000000) (upT (Vk G u L m a) a (a + m) f) := by
            intro x c d hcd hne
            unfold upT at hne
            by_cases h : c = a ∧ d = a + m
            · rw [if_pos h] at hne
              have := f2 x hne
              omega
            · rw [if_neg h] at hne; exact Vk_F w u L m a x c d hcd hne
          simp (disch := omega) only [lt_ok, if_neg, nI_add]
          refine wp_call (weighs_m hMt w hW hVb hut hu5 hL (show a ≤ a + m by omega) (show a + m ≤ L by omega) (show 20 ≤ n by omega)) (fun _ t2 ⟨hf2, hW2⟩ => ?_)
          refine ih4 _ ⟨hf.tr hf2, fun x => wgh G u (upT (Vk G u L m a) a (a + m) f) a (a + m) x G.1, fun x c d h1 h2 h3 => ?_, fun x => wgh_le _ _ _ _ _ _ _, fun x hne => ?_, fun x hx hrx hz => ?_, fun x hrx => ?_⟩
          · rw [hW2 x c d h1 h2 h3]
            unfold upT
            by_cases h : c = a ∧ d = a + m
            · rw [if_pos h, if_pos h]
            · rw [if_neg h, if_neg h, if_neg h]
          · have := wgh_F w hVF hne
            omega
          · dsimp only
            unfold wgh
            rw [if_pos hrx]
            refine NN_step w hA u hVF (by omega) (by omega) hx hrx (fun y c d hy hry k1 k2 k3 k4 => ?_) (fun y hy hry hzy => ?_)
            · unfold upT Vk
              rw [if_neg (by omega), if_pos (by omega), NT_r hry]
              exact se_sat _
            · unfold upT
              rw [if_pos ⟨rfl, rfl⟩, f3 y hy hry (by omega)]
              exact se_sat _
          · dsimp only
            unfold wgh
            rw [if_neg hrx]
        · rintro rec4 t ⟨hf, f, hW, f1, f2, f3, f4⟩
          simp (disch := omega) only [lt_ok, if_pos, nI_add]
          refine ih3 _ ⟨hf, fun x c d h1 h2 h3 => ?_⟩
          rw [hW x c d h1 h2 h3]
          unfold upT
          by_cases h : c = a ∧ d = a + m
          · rw [if_pos h]
            unfold Vk
            rw [if_pos (by omega), h.1, h.2]
            by_cases hr : rI G 6 x = true
            · have := zal_le G x
              rw [f3 x h1 hr (by omega), NT_r hr]
            · rw [f4 x hr]
              unfold NT
              rw [if_neg hr]
          · rw [if_neg h]
            unfold Vk
            by_cases hc : d ≤ L ∧ (d - c < m ∨ (d - c = m ∧ c < a))
            · rw [if_pos hc, if_pos (by omega)]
            · rw [if_neg hc, if_neg (by omega)]
        · rw [hW x c d h1 h2 h3]
          unfold upT
          by_cases h : c = a ∧ d = a + m
          · rw [if_pos h]
            unfold Vk
            rw [if_neg (by omega)]
          · rw [if_neg h]
      · rintro rec3 t ⟨hf, hW⟩
        have hlt : t.1 148 24 = nI L := by rw [(hf 148 (by unfold isD4; omega)).1]; exact hl
        simp (disch := omega) only [hlt, nI_add, lt_ok, if_pos]
        refine ih2 _ ⟨hf, fun x c d h1 h2 h3 => ?_⟩
        rw [hW x c d h1 h2 h3]
        unfold Vk
        by_cases hc : d ≤ L ∧ (d - c < m ∨ (d - c = m ∧ c < L + 1 - m))
        · rw [if_pos hc, if_pos (by omega)]
        · rw [if_neg hc, if_neg (by omega)]
    · rintro rec2 t ⟨hf, hW⟩
      have hlt : t.1 148 24 = nI L := by rw [(hf 148 (by unfold isD4; omega)).1]; exact hl
      simp (disch := omega) only [hlt, lt_ok, if_pos]
      refine wp_some ⟨hf, fun x a b h1 h2 h3 => ?_⟩
      rw [hW x a b h1 h2 (by omega)]
      unfold Vk
      rw [if_pos (by omega)]
    · rw [h0 _ (by omega)]
      unfold Vk
      rw [if_neg (by omega)]
/-! inputs -/
def INP (L : Nat) (tx : Nat → Nat) : Prop := L ≤ 8 ∧ ∀ i, i < L → 97 ≤ tx i ∧ tx i < 102
/-- where the text is no input -/
def IFS (L : Nat) (tx : Nat → Nat) (r : Int32) : Prop := (r = -9 ∧ INP L tx) ∨ ∃ k, r = nI k ∧ k < L ∧ (∀ i, i < k → i < 8 ∧ 97 ≤ tx i ∧ tx i < 102) ∧ ¬ (k < 8 ∧ 97 ≤ tx k ∧ tx k < 102)
theorem IFS.uniq {L : Nat} {tx : Nat → Nat} {r r' : Int32} (h : IFS L tx r) (h' : IFS L tx r') : r = r' := by
  have no : ∀ {k}, INP L tx → k < L → ¬ (k < 8 ∧ 97 ≤ tx k ∧ tx k < 102) → False := by
    intro k h1 h2 h3
    have := h1.2 k h2
    have := h1.1
    exact h3 (by omega)
  rcases h with ⟨rfl, h1⟩ | ⟨k, rfl, h1, h2, h3⟩
  · rcases h' with ⟨rfl, h1'⟩ | ⟨k', rfl, h1', h2', h3'⟩
    · rfl
    · exact (no h1 h1' h3').elim
  · rcases h' with ⟨rfl, h1'⟩ | ⟨k', rfl, h1', h2', h3'⟩
    · exact (no h1' h1 h3).elim
    · rcases Nat.lt_trichotomy k k' with h | h | h
      · exact absurd (h2' k h) h3
      · rw [h]
      · exact absurd (h2 k' h) h3'
theorem IFS.none {L : Nat} {tx : Nat → Nat} {r : Int32} (hL : L ≤ 100) (h : IFS L tx r) (e : r = -9) : INP L tx := by
  rcases h with ⟨_, h1⟩ | ⟨k, rfl, h1, _⟩
  · exact h1
  · exact absurd e (neg_lt (by omega))
def isI2 (q : Nat) : Prop := q = 148 ∨ q = 166
theorem laysInput_m {L : Nat} {tx : Nat → Nat} {s : PH} (hT : TX L tx s) {n : Nat} (hn : 200 ≤ n) : wp (fX12_laysInput n s) (fun r t => Fr isI2 s t ∧ (∀ k, k ≠ 24 → t.1 148 k = s.1 148 k) ∧ IFS L tx r ∧ (r = -9 → t.1 148 24 = nI L ∧ ∀ i, i < L → t.1 166 i = nI (tx i - 97))) := by
  obtain ⟨hL, _, h4, hx⟩ := hT
  unfold fX12_laysInput
  simp only [lt_def]
  refine wp_for2 L (by omega) (fun k t => Fr isI2 s t ∧ (∀ j, j ≠ 24 → t.1 148 j = s.1 148 j) ∧ t.1 148 24 = nI k ∧ (∀ i, i < k → i < 8 ∧ 97 ≤ tx i ∧ tx i < 102) ∧ ∀ i, i < k → t.1 166 i = nI (tx i - 97)) ?_ ?_ n 0 _ (by omega) ⟨Fr.si (Or.inl rfl), fun j hj => by simp [si_1, hj], by simp [si_1], fun i hi => absurd hi (Nat.not_lt_zero i), fun i hi => absurd hi (Nat.not_lt_zero i)⟩ (by omega)
  · rintro rec k t hk ⟨hf, h148, h24, hall, hw⟩ ih
    obtain ⟨_, x2, x3, x4⟩ := hx k hk
    have r151 : t.1 151 k = nI (tx k) := by rw [(hf 151 (by unfold isI2; omega)).1]; exact x2
    have r4 : t.1 148 4 = nI L := by rw [h148 4 (by decide)]; exact h4
    simp (disch := omega) only [r4, le_ok, if_neg, ra_ok, r151, in_e, bd_ok]
    by_cases hc : 97 ≤ tx k ∧ tx k ≤ 101
    · rw [if_pos hc, if_neg n1_0]
      simp (disch := omega) only [eq_ok]
      by_cases h8 : k = 8
      · rw [if_pos h8]
        refine wp_some ⟨hf, h148, Or.inr ⟨k, rfl, hk, hall, by omega⟩, fun h => absurd h (neg_lt (by omega))⟩
      · rw [if_neg h8]
        have hk8 : k < 8 := by
          rcases Nat.lt_or_ge k 8 with h | h
          · exact h
          · have := hall 8 (by omega); omega
        simp (disch := omega) only [wa_ok, cl_ok, nI_subN, nI_add]
        have e24 : (si t 166 k (nI (tx k - 97))).1 148 24 = nI k := by simp [si_1, h24]
        rw [e24, nI_add]
        refine ih _ ⟨(hf.tr (Fr.si (Or.inr rfl))).tr (Fr.si (Or.inl rfl)), fun j hj => ?_, ?_, fun i hi => ?_, fun i hi => ?_⟩
        · simp [si_1, hj]; exact h148 j hj
        · simp [si_1]
        · by_cases e : i = k
          · rw [e]; omega
          · exact hall i (by omega)
        · rw [si_r _ _ _ _ (by decide), si_q]
          dsimp only
          by_cases e : i = k
          · rw [if_pos e, e]
          · rw [if_neg e]; exact hw i (by omega)
    · rw [if_neg hc, if_pos n0_0]
      refine wp_some ⟨hf, h148, Or.inr ⟨k, rfl, hk, hall, by omega⟩, fun h => absurd h (neg_lt (by omega))⟩
  · rintro rec t ⟨hf, h148, h24, hall, hw⟩
    have r4 : t.1 148 4 = nI L := by rw [h148 4 (by decide)]; exact h4
    simp (disch := omega) only [r4, le_ok, if_pos]
    refine wp_some ⟨hf, h148, Or.inl ⟨rfl, ?_, fun i hi => (hall i hi).2⟩, fun _ => ⟨h24, hw⟩⟩
    rcases Nat.lt_or_ge 8 L with h | h
    · have := hall 8 h; omega
    · exact h
theorem inputFault_c {L : Nat} {tx : Nat → Nat} {s : PH} (hT : TX L tx s) {n : Nat} (hn : 200 ≤ n) : ∃ r, fX8_inputFault n s = some (r, s) ∧ IFS L tx r := by
  obtain ⟨hL, h1, _, hx⟩ := hT
  have key : wp (fX8_inputFault n s) (fun r t => t = s ∧ IFS L tx r) := by
    unfold fX8_inputFault
    simp only [lt_def]
    refine wp_for2 L (by omega) (fun k t => t = s ∧ ∀ i, i < k → i < 8 ∧ 97 ≤ tx i ∧ tx i < 102) ?_ ?_ n 0 s (by omega) ⟨rfl, fun i hi => absurd hi (Nat.not_lt_zero i)⟩ (by omega)
    · rintro rec k t hk ⟨rfl, hall⟩ ih
      obtain ⟨x1, _, x3, x4⟩ := hx k hk
      simp (disch := omega) only [h1, le_ok, if_neg, ra_ok, x1, lt_ok, nI_add]
      by_cases h8 : 8 ≤ k
      · rw [if_pos h8]; exact wp_some ⟨rfl, Or.inr ⟨k, rfl, hk, hall, by omega⟩⟩
      · rw [if_neg h8]
        by_cases c1 : tx k < 97
        · rw [if_pos c1]; exact wp_some ⟨rfl, Or.inr ⟨k, rfl, hk, hall, by omega⟩⟩
        · rw [if_neg c1]
          by_cases c2 : tx k < 102
          · rw [if_pos c2]
            refine ih _ ⟨rfl, fun i hi => ?_⟩
            by_cases e : i = k
            · rw [e]; omega
            · exact hall i (by omega)
          · rw [if_neg c2]; exact wp_some ⟨rfl, Or.inr ⟨k, rfl, hk, hall, by omega⟩⟩
    · rintro rec t ⟨rfl, hall⟩
      simp (disch := omega) only [h1, le_ok, if_pos]
      refine wp_some ⟨rfl, Or.inl ⟨rfl, ?_, fun i hi => (hall i hi).2⟩⟩
      rcases Nat.lt_or_ge 8 L with h | h
      · have := hall 8 h; omega
      · exact h
  obtain ⟨r, t, e, rfl, hp⟩ := key
  exact ⟨r, e, hp⟩
/-- some reachable nonterminal is related to itself -/
def RR (G : Gr) (c : Bool) : Prop := ∃ x, x < 6 ∧ rI G 6 x = true ∧ clB c G (6 * x + x) = true
theorem RR_acy {G : Gr} (h : ¬ RR G true) : ACY G := by
  intro x hx hr
  cases hc : clB true G (6 * x + x) with
  | false => rfl
  | true => exact absurd ⟨x, hx, hr, hc⟩ h
theorem someReached_m {G : Gr} {s : PH} {q : Nat} {c : Bool} (hR : BA (s.1 155) 6 (rI G 6)) (hq : BA (s.1 q) 36 (clB c G)) {n : Nat} (hn : 20 ≤ n) : ∃ r, fX12_someReached n q 36 s = some (r, s) ∧ PB r (RR G c) := by
  have key : wp (fX12_someReached n q 36 s) (fun r t => t = s ∧ PB r (RR G c)) := by
    unfold fX12_someReached
    simp only [lt_def]
    refine wp_for3 6 (by omega) (fun j v t => t = s ∧ PB v (∃ x, x < j ∧ rI G 6 x = true ∧ clB c G (6 * x + x) = true)) ?_ ?_ n 0 _ s (by omega) ⟨rfl, PB.f (fun ⟨x, hx, _⟩ => absurd hx (Nat.not_lt_zero x))⟩ (by omega)
    · rintro rec j v t hj ⟨rfl, hv⟩ ih
      simp (disch := omega) only [le_ok, if_neg, jn_def, nI_add, ra_ok, nI_mulN]
      rw [hR j hj, hq (6 * j + j) (by omega)]
      simp only [bI_0]
      have yes : (∃ x, x < j + 1 ∧ rI G 6 x = true ∧ clB c G (6 * x + x) = true) → wp (rec (nI 1) (nI (j + 1)) t) (fun r t' => t' = t ∧ PB r (RR G c)) := fun h => ih _ _ ⟨rfl, PB.t h⟩
      have no : (¬ ∃ x, x < j + 1 ∧ rI G 6 x = true ∧ clB c G (6 * x + x) = true) → wp (rec (nI 0) (nI (j + 1)) t) (fun r t' => t' = t ∧ PB r (RR G c)) := fun h => ih _ _ ⟨rfl, PB.f h⟩
      by_cases h0 : v = 0
      · rw [if_pos h0]
        have hno := hv.eq h0
        have ext : ∀ {x}, x < j + 1 → rI G 6 x = true → clB c G (6 * x + x) = true → x = j := by
          intro x h1 h2 h3
          rcases Nat.lt_or_ge x j with h | h
          · exact absurd ⟨x, h, h2, h3⟩ hno
          · omega
        by_cases h1 : rI G 6 j = false
        · rw [if_pos h1]
          refine no (fun ⟨x, k1, k2, k3⟩ => ?_)
          rw [ext k1 k2 k3, h1] at k2
          cases k2
        · rw [if_neg h1]
          by_cases h2 : clB c G (6 * j + j) = false
          · rw [if_pos h2]
            refine no (fun ⟨x, k1, k2, k3⟩ => ?_)
            rw [ext k1 k2 k3, h2] at k3
            cases k3
          · rw [if_neg h2]
            exact yes ⟨j, by omega, by simpa using h1, by simpa using h2⟩
      · rw [if_neg h0]
        obtain ⟨x, k1, k2⟩ := hv.ne h0
        exact yes ⟨x, by omega, k2⟩
    · rintro rec v t ⟨rfl, hv⟩
      simp (disch := omega) only [le_ok, if_pos, hv.rz]
      exact wp_some ⟨rfl, hv⟩
  obtain ⟨r, t, e, rfl, hp⟩ := key
  exact ⟨r, e, hp⟩
theorem reach_c {G : Gr} {s : PH} {k : Nat} {c : Bool} (h7 : s.1 7 7 = nI (mk (rI G 6))) (hk : s.1 7 k = nI (mk (fun x => clB c G (6 * x + x)))) : PB (if (s.1 7 k &&& s.1 7 7) = 0 then nI 0 else nI 1) (RR G c) := by
  rw [h7, hk, mk_and]
  by_cases h : nI (mk (fun i => clB c G (6 * i + i) && rI G 6 i)) = 0
  · rw [if_pos h]
    rw [mk_0] at h
    refine PB.f (fun ⟨x, hx, h1, h2⟩ => ?_)
    have := h x hx
    rw [h1, h2] at this
    cases this
  · rw [if_neg h]
    refine PB.t (Classical.byContradiction (fun hc => h ((mk_0 _).mpr (fun x hx => ?_))))
    cases h1 : clB c G (6 * x + x) with
    | false => rfl
    | true =>
      cases h2 : rI G 6 x with
      | false => rfl
      | true => exact absurd ⟨x, hx, h2, h1⟩ hc
