/-! ===== fewest letters: six rounds are enough ===== -/
/-- one round without looking at what it has found itself -/
def jm (G : Gr) (f : Nat → Nat) (K x : Nat) : Nat → Nat
  | 0 => K
  | n + 1 => if G.2.1 n = x then min (jm G f K x n) (sm f (G.2.2.2 n) (G.2.2.1 n)) else jm G f K x n
def jF (G : Gr) (K : Nat) : Nat → Nat → Nat
  | 0, _ => K
  | h + 1, x => jm G (jF G K h) K x G.1
theorem cs_mono {f g : Nat → Nat} (h : ∀ x, f x ≤ g x) (y : Nat) : cs f y ≤ cs g y := by
  unfold cs
  split
  · exact Nat.le_refl _
  · exact h _
theorem sm_mono {f g : Nat → Nat} (h : ∀ x, f x ≤ g x) (q : Nat → Nat) : ∀ n, sm f q n ≤ sm g q n
  | 0 => Nat.le_refl _
  | n + 1 => Nat.add_le_add (sm_mono h q n) (cs_mono h _)
theorem jm_K (G : Gr) (f : Nat → Nat) (K x : Nat) : ∀ n, jm G f K x n ≤ K
  | 0 => Nat.le_refl _
  | n + 1 => by
    have := jm_K G f K x n
    unfold jm
    split
    · exact Nat.le_trans (Nat.min_le_left _ _) this
    · exact this
theorem jm_mono {G : Gr} {f g : Nat → Nat} (h : ∀ x, f x ≤ g x) (K x : Nat) : ∀ n, jm G f K x n ≤ jm G g K x n
  | 0 => Nat.le_refl _
  | n + 1 => by
    have h1 := jm_mono h K x n (G := G)
    have h2 := sm_mono h (G.2.2.2 n) (G.2.2.1 n)
    unfold jm
    split
    · omega
    · exact h1
theorem jm_le {G : Gr} {f : Nat → Nat} {K : Nat} : ∀ n p, p < n → jm G f K (G.2.1 p) n ≤ sm f (G.2.2.2 p) (G.2.2.1 p)
  | 0, p, h => absurd h (Nat.not_lt_zero p)
  | n + 1, p, h => by
    unfold jm
    rcases Nat.lt_or_ge p n with h1 | h1
    · have := jm_le (G := G) (f := f) (K := K) n p h1
      split <;> omega
    · have : p = n := by omega
      subst this
      rw [if_pos rfl]
      exact Nat.min_le_right _ _
theorem jm_att {G : Gr} {f : Nat → Nat} {K x : Nat} : ∀ n, jm G f K x n < K → ∃ p, p < n ∧ G.2.1 p = x ∧ jm G f K x n = sm f (G.2.2.2 p) (G.2.2.1 p)
  | 0, h => absurd h (Nat.lt_irrefl K)
  | n + 1, h => by
    unfold jm at h ⊢
    by_cases e : G.2.1 n = x
    · rw [if_pos e] at h ⊢
      rcases Nat.lt_or_ge (sm f (G.2.2.2 n) (G.2.2.1 n)) (jm G f K x n) with h1 | h1
      · exact ⟨n, by omega, e, by omega⟩
      · obtain ⟨p, h2, h3, h4⟩ := jm_att (G := G) (f := f) (K := K) (x := x) n (by omega)
        exact ⟨p, by omega, h3, by omega⟩
    · rw [if_neg e] at h ⊢
      obtain ⟨p, h2, h3, h4⟩ := jm_att n h
      exact ⟨p, by omega, h3, h4⟩
theorem jF_K (G : Gr) (K : Nat) : ∀ h x, jF G K h x ≤ K
  | 0, _ => Nat.le_refl _
  | _ + 1, _ => jm_K _ _ _ _ _
theorem jF_anti (G : Gr) (K : Nat) : ∀ h x, jF G K (h + 1) x ≤ jF G K h x
  | 0, _ => jm_K _ _ _ _ _
  | h + 1, x => jm_mono (fun y => jF_anti G K h y) K x G.1
theorem sm_lt {f g q : Nat → Nat} : ∀ n, sm f q n < sm g q n → ∃ i, i < n ∧ cs f (q i) < cs g (q i)
  | 0, h => absurd h (Nat.lt_irrefl 0)
  | n + 1, h => by
    have h1 : sm f q n + cs f (q n) < sm g q n + cs g (q n) := h
    rcases Nat.lt_or_ge (sm f q n) (sm g q n) with h2 | h2
    · obtain ⟨i, h3, h4⟩ := sm_lt n h2
      exact ⟨i, by omega, h4⟩
    · exact ⟨n, by omega, by omega⟩
theorem cs_le_sm {f q : Nat → Nat} : ∀ n i, i < n → cs f (q i) ≤ sm f q n
  | 0, i, h => absurd h (Nat.not_lt_zero i)
  | n + 1, i, h => by
    show _ ≤ sm f q n + cs f (q n)
    rcases Nat.lt_or_ge i n with h1 | h1
    · have := cs_le_sm (f := f) (q := q) n i h1
      omega
    · have : i = n := by omega
      subst this
      omega
/-- how many of the first n have a property -/
def cn (P : Nat → Bool) : Nat → Nat
  | 0 => 0
  | n + 1 => cn P n + if P n = true then 1 else 0
theorem cn_n (P : Nat → Bool) : ∀ n, cn P n ≤ n
  | 0 => Nat.le_refl _
  | n + 1 => by
    have := cn_n P n
    show cn P n + _ ≤ n + 1
    split <;> omega
theorem cn_mono {P Q : Nat → Bool} : ∀ n, (∀ k, k < n → P k = true → Q k = true) → cn P n ≤ cn Q n
  | 0, _ => Nat.le_refl _
  | n + 1, h => by
    have h1 := cn_mono (P := P) (Q := Q) n (fun k hk => h k (by omega))
    show cn P n + _ ≤ cn Q n + _
    by_cases hp : P n = true
    · rw [if_pos hp, if_pos (h n (by omega) hp)]; omega
    · rw [if_neg hp]; omega
theorem cn_more {P Q : Nat → Bool} : ∀ n, (∀ k, k < n → P k = true → Q k = true) → (∃ k, k < n ∧ Q k = true ∧ ¬ P k = true) → cn P n + 1 ≤ cn Q n
  | 0, _, ⟨k, hk, _⟩ => absurd hk (Nat.not_lt_zero k)
  | n + 1, h, ⟨k, hk, h1, h2⟩ => by
    have hl := cn_mono (P := P) (Q := Q) n (fun k hk => h k (by omega))
    show cn P n + _ + 1 ≤ cn Q n + _
    rcases Nat.lt_or_ge k n with h3 | h3
    · have := cn_more (P := P) (Q := Q) n (fun k hk => h k (by omega)) ⟨k, h3, h1, h2⟩
      by_cases hp : P n = true
      · rw [if_pos hp, if_pos (h n (by omega) hp)]; omega
      · rw [if_neg hp]; omega
    · have : k = n := by omega
      subst this
      rw [if_neg h2, if_pos h1]; omega
theorem jF_cnt {G : Gr} (w : WG G) (K : Nat) : ∀ h x, x < 6 → jF G K (h + 1) x < jF G K h x → h + 1 ≤ cn (fun y => decide (jF G K (h + 1) y ≤ jF G K (h + 1) x)) 6
  | 0, x, hx, _ => by
    have h1 := cn_more (P := fun _ => false) (Q := fun y => decide (jF G K (0 + 1) y ≤ jF G K (0 + 1) x)) 6 (fun _ _ h => by cases h) ⟨x, hx, by simp, by simp⟩
    omega
  | h + 1, x, hx, hd => by
    have hK : jF G K (h + 1 + 1) x < K := Nat.lt_of_lt_of_le hd (jF_K G K (h + 1) x)
    obtain ⟨p, hp, hl, ha⟩ := jm_att (G := G) (f := jF G K (h + 1)) (K := K) (x := x) G.1 hK
    have ha' : jF G K (h + 1 + 1) x = sm (jF G K (h + 1)) (G.2.2.2 p) (G.2.2.1 p) := ha
    have hb : jF G K (h + 1) x ≤ sm (jF G K h) (G.2.2.2 p) (G.2.2.1 p) := by
      have := jm_le (G := G) (f := jF G K h) (K := K) G.1 p hp
      rw [hl] at this
      exact this
    obtain ⟨i, hi, hc⟩ := sm_lt (f := jF G K (h + 1)) (g := jF G K h) (q := G.2.2.2 p) (G.2.2.1 p) (by omega)
    have hy16 := sy16 w hp hi
    have hy10 : ¬ G.2.2.2 p i < 10 := by
      intro h1
      unfold cs at hc
      rw [if_pos h1, if_pos h1] at hc
      omega
    have hc2 := cs_le_sm (f := jF G K (h + 1)) (q := G.2.2.2 p) (G.2.2.1 p) i hi
    unfold cs at hc hc2
    rw [if_neg hy10, if_neg hy10] at hc
    rw [if_neg hy10] at hc2
    have hy6 : G.2.2.2 p i - 10 < 6 := by omega
    generalize G.2.2.2 p i - 10 = y at hc hc2 hy6
    have ih := jF_cnt w K h y hy6 hc
    refine Nat.le_trans (Nat.succ_le_succ ih) (cn_more 6 (fun z _ hz => ?_) ⟨x, hx, by simp, ?_⟩)
    · have h1 := jF_anti G K (h + 1) z
      have h2 : jF G K (h + 1) z ≤ jF G K (h + 1) y := by simpa using hz
      simp only [decide_eq_true_eq]
      omega
    · simp only [decide_eq_true_eq]
      omega
theorem jF_6 {G : Gr} (w : WG G) (K : Nat) {x : Nat} (hx : x < 6) : jF G K 7 x = jF G K 6 x := by
  have h1 : jF G K 7 x ≤ jF G K 6 x := jF_anti G K 6 x
  rcases Nat.lt_or_ge (jF G K 7 x) (jF G K 6 x) with h | h
  · have h2 := jF_cnt w K 6 x hx h
    have h3 := cn_n (fun y => decide (jF G K (6 + 1) y ≤ jF G K (6 + 1) x)) 6
    omega
  · omega
theorem jF_cl {G : Gr} (w : WG G) (K : Nat) {p : Nat} (hp : p < G.1) : jF G K 6 (G.2.1 p) ≤ sm (jF G K 6) (G.2.2.2 p) (G.2.2.1 p) := by
  rw [← jF_6 w K (w.2.1 p hp).1]
  exact jm_le G.1 p hp
theorem fR_jm {G : Gr} {f g : Nat → Nat} {K : Nat} (hfg : ∀ x, f x ≤ g x) (hK : ∀ x, f x ≤ K) (x : Nat) : ∀ n, fR G f n x ≤ jm G g K x n
  | 0 => hK x
  | n + 1 => by
    have h1 := fR_jm hfg hK x n (G := G)
    have h2 : sm (fR G f n) (G.2.2.2 n) (G.2.2.1 n) ≤ sm g (G.2.2.2 n) (G.2.2.1 n) := sm_mono (fun y => Nat.le_trans (fR_le G f n y) (hfg y)) _ _
    show fStep G (fR G f n) n x ≤ _
    unfold fStep jm
    by_cases e : x = G.2.1 n
    · rw [if_pos e, if_pos e.symm]
      have : fR G f n x = fR G f n x := rfl
      omega
    · rw [if_neg e, if_neg (fun h => e h.symm)]
      exact h1
theorem fI_jF (G : Gr) (K : Nat) : ∀ r x, fI G K r x ≤ jF G K r x
  | 0, _ => Nat.le_refl _
  | r + 1, x => fR_jm (fun y => fI_jF G K r y) (fun y => fI_le G K r y) x G.1
theorem fR_ge {G : Gr} {f g : Nat → Nat} (hcl : ∀ p, p < G.1 → g (G.2.1 p) ≤ sm g (G.2.2.2 p) (G.2.2.1 p)) (hfg : ∀ x, g x ≤ f x) (x : Nat) : ∀ n, n ≤ G.1 → g x ≤ fR G f n x
  | 0, _ => hfg x
  | n + 1, hn => by
    have h1 : ∀ y, g y ≤ fR G f n y := fun y => fR_ge hcl hfg y n (by omega)
    have h2 := hcl n (by omega)
    have h3 := sm_mono h1 (G.2.2.2 n) (G.2.2.1 n)
    show g x ≤ fStep G (fR G f n) n x
    unfold fStep
    by_cases e : x = G.2.1 n
    · rw [if_pos e]
      have h4 := h1 x
      rw [← e] at h2
      omega
    · rw [if_neg e]; exact h1 x
theorem fI_ge {G : Gr} (w : WG G) (K : Nat) : ∀ r x, jF G K 6 x ≤ fI G K r x
  | 0, x => jF_K G K 6 x
  | r + 1, x => fR_ge (fun p hp => jF_cl w K hp) (fun y => fI_ge w K r y) x G.1 (Nat.le_refl _)
theorem fI_6 {G : Gr} (w : WG G) (K : Nat) : fI G K 6 = jF G K 6 := by
  funext x
  exact Nat.le_antisymm (fI_jF G K 6 x) (fI_ge w K 6 x)
/-- the fewest letters, where K stands for 'none' -/
def fw (G : Gr) (K : Nat) : Nat → Nat := fI G K 6
theorem fw_cl {G : Gr} (w : WG G) (K : Nat) {p : Nat} (hp : p < G.1) : fw G K (G.2.1 p) ≤ sm (fw G K) (G.2.2.2 p) (G.2.2.1 p) := by
  unfold fw
  rw [fI_6 w]
  exact jF_cl w K hp
theorem fw_st {G : Gr} (w : WG G) (K : Nat) : ∀ n, n ≤ G.1 → fR G (fw G K) n = fw G K
  | 0, _ => rfl
  | n + 1, hn => by
    show fStep G (fR G (fw G K) n) n = fw G K
    rw [fw_st w K n (by omega)]
    funext x
    unfold fStep
    by_cases e : x = G.2.1 n
    · have := fw_cl w K (p := n) (by omega)
      rw [if_pos e, e]
      omega
    · rw [if_neg e]
/-- two words for 'none' -/
def two (K1 K2 B a b : Nat) : Prop := (a = K1 ∧ b = K2) ∨ (a = b ∧ a ≤ B)
theorem sm_two {K1 K2 B : Nat} {f g q : Nat → Nat} (hB : 1 ≤ B) (h : ∀ x, two K1 K2 B (f x) (g x)) : ∀ n, (K1 ≤ sm f q n ∧ K2 ≤ sm g q n) ∨ (sm f q n = sm g q n ∧ sm f q n ≤ n * B)
  | 0 => Or.inr ⟨rfl, Nat.zero_le _⟩
  | n + 1 => by
    have ih := sm_two (q := q) hB h n
    have hm : (n + 1) * B = n * B + B := Nat.succ_mul n B
    show (K1 ≤ sm f q n + cs f (q n) ∧ K2 ≤ sm g q n + cs g (q n)) ∨ (sm f q n + cs f (q n) = sm g q n + cs g (q n) ∧ sm f q n + cs f (q n) ≤ (n + 1) * B)
    rw [hm]
    unfold cs
    by_cases e : q n < 10
    · rw [if_pos e, if_pos e]; omega
    · rw [if_neg e, if_neg e]
      have := h (q n - 10)
      unfold two at this
      omega
theorem jm_two {G : Gr} (w : WG G) {K1 K2 B : Nat} {f g : Nat → Nat} (hB : 1 ≤ B) (h1 : 5 * B < K1) (h2 : 5 * B < K2) (h : ∀ x, two K1 K2 B (f x) (g x)) (x : Nat) : ∀ n, n ≤ G.1 → two K1 K2 (5 * B) (jm G f K1 x n) (jm G g K2 x n)
  | 0, _ => Or.inl ⟨rfl, rfl⟩
  | n + 1, hn => by
    have ih := jm_two w hB h1 h2 h x n (by omega)
    have hs := sm_two (q := G.2.2.2 n) hB h (G.2.2.1 n)
    have h5 := (w.2.1 n (by omega)).2
    have hm : G.2.2.1 n * B ≤ 5 * B := Nat.mul_le_mul_right B h5
    unfold jm
    by_cases e : G.2.1 n = x
    · rw [if_pos e, if_pos e]
      unfold two at ih ⊢
      omega
    · rw [if_neg e, if_neg e]; exact ih
theorem fw_two {G : Gr} (w : WG G) {K1 K2 : Nat} (h1 : 100000 < K1) (h2 : 100000 < K2) (x : Nat) : two K1 K2 15625 (fw G K1 x) (fw G K2 x) := by
  unfold fw
  rw [fI_6 w, fI_6 w]
  have s0 : ∀ x, two K1 K2 1 (jF G K1 0 x) (jF G K2 0 x) := fun x => Or.inl ⟨rfl, rfl⟩
  have s1 : ∀ x, two K1 K2 5 (jF G K1 1 x) (jF G K2 1 x) := fun x => jm_two w (B := 1) (by omega) (by omega) (by omega) s0 x G.1 (Nat.le_refl _)
  have s2 : ∀ x, two K1 K2 25 (jF G K1 2 x) (jF G K2 2 x) := fun x => jm_two w (B := 5) (by omega) (by omega) (by omega) s1 x G.1 (Nat.le_refl _)
  have s3 : ∀ x, two K1 K2 125 (jF G K1 3 x) (jF G K2 3 x) := fun x => jm_two w (B := 25) (by omega) (by omega) (by omega) s2 x G.1 (Nat.le_refl _)
  have s4 : ∀ x, two K1 K2 625 (jF G K1 4 x) (jF G K2 4 x) := fun x => jm_two w (B := 125) (by omega) (by omega) (by omega) s3 x G.1 (Nat.le_refl _)
  have s5 : ∀ x, two K1 K2 3125 (jF G K1 5 x) (jF G K2 5 x) := fun x => jm_two w (B := 625) (by omega) (by omega) (by omega) s4 x G.1 (Nat.le_refl _)
  exact jm_two w (B := 3125) (by omega) (by omega) (by omega) s5 x G.1 (Nat.le_refl _)
/-- empty is to have a word of no letters -/
theorem aE_sm {E : Nat → Bool} {f : Nat → Nat} (h : ∀ x, E x = decide (f x = 0)) (q : Nat → Nat) : ∀ n, aE E q 0 n = decide (sm f q n = 0)
  | 0 => by simp [aE, sm]
  | n + 1 => by
    show (aE E q 0 n && eS E (q (0 + n))) = decide (sm f q n + cs f (q n) = 0)
    rw [aE_sm h q n, Nat.zero_add]
    unfold eS cs
    by_cases e : q n < 10
    · rw [if_pos e, decide_eq_false (show ¬ 10 ≤ q n by omega)]
      simp
    · rw [if_neg e, decide_eq_true (show 10 ≤ q n by omega), h]
      by_cases h1 : sm f q n = 0 <;> by_cases h2 : f (q n - 10) = 0 <;> simp [h1, h2]
theorem eR_fR {G : Gr} {E : Nat → Bool} {f : Nat → Nat} (h : ∀ x, E x = decide (f x = 0)) : ∀ n x, eR G E n x = decide (fR G f n x = 0)
  | 0, x => h x
  | n + 1, x => by
    show eStep G (eR G E n) n x = decide (fStep G (fR G f n) n x = 0)
    unfold eStep fStep
    by_cases e : x = G.2.1 n
    · rw [if_pos e, if_pos e, eR_fR h n x, aE_sm (fun y => eR_fR h n y)]
      by_cases h1 : fR G f n x = 0
      · simp [h1]
      · by_cases h2 : sm (fR G f n) (G.2.2.2 n) (G.2.2.1 n) = 0
        · simp [h2]
        · simp only [h1, h2, decide_false, Bool.or_self]
          symm
          simp only [decide_eq_false_iff_not]
          omega
    · rw [if_neg e, if_neg e]; exact eR_fR h n x
theorem eI_fI {G : Gr} {K : Nat} (hK : 0 < K) : ∀ r x, eI G r x = decide (fI G K r x = 0)
  | 0, x => by
    show false = decide (K = 0)
    rw [decide_eq_false (by omega)]
  | r + 1, x => eR_fR (fun y => eI_fI hK r y) G.1 x
