/-- a maker's call whose end is the common world -/
theorem rc_ctorW {Γ : CC} {Q : State → Prop} {ws0 L : va_W} {cs ss pc : Nat} {lv : List (Nat × Value)} {st : List Value} {cc : ByteArray} {own : String} {rm : Room} {ret : Option FieldType} {nL : Nat} {nm : String} (C : CY Γ cc own rm ret nL nm) {y : MethodName} {cd : ByteArray} {ml n idx h K : Nat} {rmc : Room} {av : List Value} {post : (Nat → Nat) → Prop} {σ : PH} (As : List Value) (ct : Met (gLc Γ) y (wsOf y cd ml none) rmc (va_Pc av (CS (gD Γ) (gca Γ) (gA Γ) (gS Γ) ws0 L)) (va_Qv post (fun ad t => WS (gD Γ, ad, gca Γ, gS Γ, K, gA Γ) σ t) (gA Γ)) rmc.cells rmc.slots (gA Γ)) (mf : MF y cd ml none n) (hi : Cond.instanceMethod y ∈ wsL_law) (hyn : y.name = "<init>") (lk : ML own idx y) (hav : av = .ref h :: As) (hn : As.length = n) {st0 : List Value} (hst : st0 = As.reverse ++ .ref h :: st) (hcat : (st.map fun v => v.category).sum ≤ 8) (hR : rmc.frames + 1 ≤ rm.frames ∧ 8 + (ml + 11) + rmc.locals ≤ rm.locals) (hf : cs + rmc.cells ≤ rm.cells ∧ ss + rmc.slots ≤ rm.slots) (d : decode cc pc = .ok (.invokespecial idx, 3)) (k : ∀ ad : Nat → Nat, post ad → (∀ a b : Nat, σ.2.2 a b < 6) → RC Γ Q (wsE (gD Γ, ad, gca Γ, gS Γ, K, gA Γ) σ) [] (cs + rmc.cells) (ss + rmc.slots) (pc + 3) lv st) : RC Γ Q ws0 L cs ss pc lv st0 := by
  obtain ⟨p, l, e, R, s, m, args, below, meth, c, nL', D, ca, A, tS⟩ := Γ
  obtain ⟨hx, hb, hml, hown, hts, hK, hZ, hr, hlk, rfl, rfl, hnm⟩ := C
  intro H locs ls hP hD hS hl
  have hM := ct
  rw [hav] at hM
  refine va_callv (va_runI (As := As) (rest := st) (n := n) ⟨hx, hb, hml, hown, hts⟩ hM ⟨callB_of n hts (wsB_good mf.1) rfl rfl rfl (hts _ mf.2.1) (hts _ lk) mf.2.2 hR, hyn, hts _ hi⟩ ⟨CS.blind, fun U hU hW => ⟨rfl, CS.of hP hD hS hK hZ hU hW⟩⟩ rfl hn hl.1 hst (lv_room hcat) d hf) hS (fun _ _ h => h) (fun _ h => h) (fun ad t H1 locs1 ht hvm hw hB hz1 hk1 hS1 => ?_)
  exact k ad hw hB.2.2.1 H1 locs1 ls (by rw [List.append_nil, ← ht]; exact hB.1) (by rw [List.append_nil]; exact hB.2.1) hS1 hl
/-- what is owed of the pure functions: both are made, and the law's loop comes to its end -/
def PureClaim : Prop := ∀ (L : Nat) (xs : Nat → Int32), L ≤ 2048 → ∃ (n : Nat) (s1 s2 s3 : PH), fX11_rest n s00 = some ((), s1) ∧ fX12_rest n (mgH s1) = some ((), s2) ∧ flaw n L xs s2 = some ((), s3)
theorem clL_7 : Cond.classLink RL 7 RX11 ∈ wsL_law := (inR1 _ (List.mem_of_getElem? (i := 0) rfl))
theorem clL_10 : Cond.classLink RL 10 RX12 ∈ wsL_law := (inR1 _ (List.mem_of_getElem? (i := 3) rfl))
theorem inst11 : Cond.instantiable RX11 9 ∈ wsL_law := (inR1 _ (List.mem_of_getElem? (i := 1) rfl))
theorem ini11 : Cond.initialized RX11 ∈ wsL_law := (inR1 _ (List.mem_of_getElem? (i := 2) rfl))
theorem blk11 : ∀ j, j < 9 → defaultValue (tyX11 j) = vp_V [.null, .null, .null, .null, .null, .null, .null, .null, .null] j := fun j hj => by rcases (show j = 0 ∨ j = 1 ∨ j = 2 ∨ j = 3 ∨ j = 4 ∨ j = 5 ∨ j = 6 ∨ j = 7 ∨ j = 8 by omega) with rfl | rfl | rfl | rfl | rfl | rfl | rfl | rfl | rfl <;> rfl
theorem mfX11_init : MF yX11_init cX11_init 1 none 0 := ⟨(inR1 _ (List.mem_of_getElem? (i := 8) rfl)), (inR1 _ (List.mem_of_getElem? (i := 2) rfl)), by decide +kernel⟩
theorem imX11_init : Cond.instanceMethod yX11_init ∈ wsL_law := (inR1 _ (List.mem_of_getElem? (i := 7) rfl))
theorem mlcL_9 : ML RL 9 yX11_init := (inR1 _ (List.mem_of_getElem? (i := 6) rfl))
theorem inst12 : Cond.instantiable RX12 33 ∈ wsL_law := (inR1 _ (List.mem_of_getElem? (i := 4) rfl))
theorem ini12 : Cond.initialized RX12 ∈ wsL_law := (inR1 _ (List.mem_of_getElem? (i := 5) rfl))
theorem blk12 : ∀ j, j < 33 → defaultValue (tyX12 j) = vp_V blM j := fun j hj => by rcases (show j = 0 ∨ j = 1 ∨ j = 2 ∨ j = 3 ∨ j = 4 ∨ j = 5 ∨ j = 6 ∨ j = 7 ∨ j = 8 ∨ j = 9 ∨ j = 10 ∨ j = 11 ∨ j = 12 ∨ j = 13 ∨ j = 14 ∨ j = 15 ∨ j = 16 ∨ j = 17 ∨ j = 18 ∨ j = 19 ∨ j = 20 ∨ j = 21 ∨ j = 22 ∨ j = 23 ∨ j = 24 ∨ j = 25 ∨ j = 26 ∨ j = 27 ∨ j = 28 ∨ j = 29 ∨ j = 30 ∨ j = 31 ∨ j = 32 by omega) with rfl | rfl | rfl | rfl | rfl | rfl | rfl | rfl | rfl | rfl | rfl | rfl | rfl | rfl | rfl | rfl | rfl | rfl | rfl | rfl | rfl | rfl | rfl | rfl | rfl | rfl | rfl | rfl | rfl | rfl | rfl | rfl | rfl <;> rfl
theorem mfX12_init : MF yX12_init cX12_init 1 none 0 := ⟨(inR16 _ (List.mem_of_getElem? (i := 3) rfl)), (inR1 _ (List.mem_of_getElem? (i := 5) rfl)), by decide +kernel⟩
theorem imX12_init : Cond.instanceMethod yX12_init ∈ wsL_law := (inR16 _ (List.mem_of_getElem? (i := 2) rfl))
theorem mlcL_12 : ML RL 12 yX12_init := (inR16 _ (List.mem_of_getElem? (i := 1) rfl))
theorem nest_in : ∀ q ∈ nestM, Cond.methodLinkNest q.1 q.2.1 q.2.2 RX11 ∈ lw_tbl := List.forall_mem_cons.mpr ⟨lwT1 (List.mem_of_getElem? (i := 28) rfl), List.forall_mem_cons.mpr ⟨lwT1 (List.mem_of_getElem? (i := 42) rfl), List.forall_mem_cons.mpr ⟨lwT1 (List.mem_of_getElem? (i := 48) rfl), List.forall_mem_cons.mpr ⟨lwT1 (List.mem_of_getElem? (i := 101) rfl), List.forall_mem_cons.mpr ⟨lwT1 (List.mem_of_getElem? (i := 111) rfl), List.forall_mem_cons.mpr ⟨lwT1 (List.mem_of_getElem? (i := 154) rfl), List.forall_mem_cons.mpr ⟨lwT1 (List.mem_of_getElem? (i := 211) rfl), List.forall_mem_cons.mpr ⟨lwT2 (List.mem_of_getElem? (i := 54) rfl), List.forall_mem_cons.mpr ⟨lwT2 (List.mem_of_getElem? (i := 71) rfl), List.forall_mem_cons.mpr ⟨lwT2 (List.mem_of_getElem? (i := 76) rfl), List.forall_mem_cons.mpr ⟨lwT2 (List.mem_of_getElem? (i := 111) rfl), List.forall_mem_cons.mpr ⟨lwT2 (List.mem_of_getElem? (i := 133) rfl), List.forall_mem_cons.mpr ⟨lwT2 (List.mem_of_getElem? (i := 186) rfl), List.forall_mem_cons.mpr ⟨lwT3 (List.mem_of_getElem? (i := 104) rfl), List.forall_mem_cons.mpr ⟨lwT4 (List.mem_of_getElem? (i := 65) rfl), List.forall_mem_cons.mpr ⟨lwT4 (List.mem_of_getElem? (i := 140) rfl), List.forall_mem_cons.mpr ⟨lwT4 (List.mem_of_getElem? (i := 180) rfl), List.forall_mem_cons.mpr ⟨lwT4 (List.mem_of_getElem? (i := 229) rfl), fun _ h => absurd h List.not_mem_nil⟩⟩⟩⟩⟩⟩⟩⟩⟩⟩⟩⟩⟩⟩⟩⟩⟩⟩
theorem nestF_in : Cond.fieldLinkNest RX10 43 RX11 "WORD_LIMITS" "[I" RX11 ∈ lw_tbl := lwT3 (List.mem_of_getElem? (i := 213) rfl)
theorem ao10_in : Cond.arrayOver (.object RX10) ∈ lw_tbl := lwT1 (List.mem_of_getElem? (i := 175) rfl)
theorem ao4_in : Cond.arrayOver (.object RX4) ∈ lw_tbl := lwT1 (List.mem_of_getElem? (i := 100) rfl)
theorem ls_in : Cond.laysStatic RX11 "WORD_LIMITS" "[I" ∈ lw_tbl := lwT3 (List.mem_of_getElem? (i := 204) rfl)
theorem instw0 : Cond.instantiable RX0 3 ∈ wsL_law := (inR2 _ (List.mem_of_getElem? (i := 17) rfl))
theorem instw1 : Cond.instantiable RX1 4 ∈ wsL_law := (inR6 _ (List.mem_of_getElem? (i := 23) rfl))
theorem instw2 : Cond.instantiable RX2 11 ∈ wsL_law := (inR2 _ (List.mem_of_getElem? (i := 13) rfl))
theorem instw3 : Cond.instantiable RX3 8 ∈ wsL_law := (inR2 _ (List.mem_of_getElem? (i := 5) rfl))
theorem instw4 : Cond.instantiable RX4 7 ∈ wsL_law := (inR2 _ (List.mem_of_getElem? (i := 21) rfl))
theorem instw5 : Cond.instantiable RX5 2 ∈ wsL_law := (inR1 _ (List.mem_of_getElem? (i := 21) rfl))
theorem instw6 : Cond.instantiable RX6 4 ∈ wsL_law := (inR2 _ (List.mem_of_getElem? (i := 9) rfl))
theorem instw7 : Cond.instantiable RX7 6 ∈ wsL_law := (inR1 _ (List.mem_of_getElem? (i := 17) rfl))
theorem instw8 : Cond.instantiable RX8 2 ∈ wsL_law := (inR1 _ (List.mem_of_getElem? (i := 13) rfl))
theorem instw9 : Cond.instantiable RX9 10 ∈ wsL_law := (inR2 _ (List.mem_of_getElem? (i := 1) rfl))
theorem instw10 : Cond.instantiable RX10 3 ∈ wsL_law := (inR5 _ (List.mem_of_getElem? (i := 3) rfl))
theorem instw11 : Cond.instantiable RX11 9 ∈ wsL_law := (inR1 _ (List.mem_of_getElem? (i := 1) rfl))
theorem instw12 : Cond.instantiable RX12 33 ∈ wsL_law := (inR1 _ (List.mem_of_getElem? (i := 4) rfl))
theorem arrK {args : Array Value} {s : State} {ty : FieldType} (h : (Cond.arrayClass ty).before args s = true) : ∃ c : ClassId, ArrOfT s c ty ∧ s.vm.findClass ("[" ++ ty.toString) = some c := by
  obtain ⟨c, k, comp, h1, h2, h3⟩ := Cond.arrayClass_spec h
  exact ⟨c, fun n z => ⟨fun k h => (by cases h), k, h2, comp, h3⟩, h1⟩
theorem arrQ {s : State} {C : String} (h : va_AO C s) : ∃ c : ClassId, ArrOfT s c (.object C) ∧ va_RA s c (.object C) := by
  obtain ⟨comp, c, k, h1, h2, h3, h4, h5⟩ := Cond.arrayOver_spec h
  exact ⟨c, fun n z => ⟨fun k h => (by cases h), k, h3, comp, h4⟩, k, comp, h3, h4, h1, h5⟩
set_option maxRecDepth 100000 in
set_option maxHeartbeats 20000000 in
/-- THE LAW, from its entry, out of the pure claim -/
theorem whole_open (hpure : PureClaim) {p : Program} {e : Env} {s : State} {m : MethodId} {below : List Frame} {meth : Method} {c : Code} (l : Launch) {b L : Nat} {xs : Nat → Int32} (hL : L ≤ 2048) (C0 : lw_At p s m meth c b L xs) : W p l e room_1 s m #[Value.ref b] below meth c s.heap [] 0 0 (lw_Z below #[Value.ref b] s) (entryFrame m ([Value.ref b] : List Value).toArray 4) := by
  obtain ⟨hx, hb, hr, hml, hown, hts, hX, hbl, hlocks, hgv⟩ := C0
  obtain ⟨n, s1, s2, s3, f1, f2, f3⟩ := hpure L xs hL
  obtain ⟨c0, iS0, hKn0⟩ := u_known (C := RX0) (T := TX0) (N := 3) (n := 3) hts inC0 (hts _ (wsL_in _ (instw0)))
  obtain ⟨c1, iS1, hKn1⟩ := u_known (C := RX1) (T := TX1) (N := 4) (n := 4) hts inC1 (hts _ (wsL_in _ (instw1)))
  obtain ⟨c2, iS2, hKn2⟩ := u_known (C := RX2) (T := TX2) (N := 11) (n := 11) hts inC2 (hts _ (wsL_in _ (instw2)))
  obtain ⟨c3, iS3, hKn3⟩ := u_known (C := RX3) (T := TX3) (N := 8) (n := 8) hts inC3 (hts _ (wsL_in _ (instw3)))
  obtain ⟨c4, iS4, hKn4⟩ := u_known (C := RX4) (T := TX4) (N := 7) (n := 7) hts inC4 (hts _ (wsL_in _ (instw4)))
  obtain ⟨c5, iS5, hKn5⟩ := u_known (C := RX5) (T := TX5) (N := 2) (n := 2) hts inC5 (hts _ (wsL_in _ (instw5)))
  obtain ⟨c6, iS6, hKn6⟩ := u_known (C := RX6) (T := TX6) (N := 4) (n := 4) hts inC6 (hts _ (wsL_in _ (instw6)))
  obtain ⟨c7, iS7, hKn7⟩ := u_known (C := RX7) (T := TX7) (N := 6) (n := 6) hts inC7 (hts _ (wsL_in _ (instw7)))
  obtain ⟨c8, iS8, hKn8⟩ := u_known (C := RX8) (T := TX8) (N := 2) (n := 2) hts inC8 (hts _ (wsL_in _ (instw8)))
  obtain ⟨c9, iS9, hKn9⟩ := u_known (C := RX9) (T := TX9) (N := 10) (n := 10) hts inC9 (hts _ (wsL_in _ (instw9)))
  obtain ⟨c10, iS10, hKn10⟩ := u_known (C := RX10) (T := TX10) (N := 3) (n := 3) hts inC10 (hts _ (wsL_in _ (instw10)))
  obtain ⟨c11, iS11, hKn11⟩ := u_known (C := RX11) (T := TX11) (N := 9) (n := 9) hts inC11 (hts _ (wsL_in _ (instw11)))
  obtain ⟨c12, iS12, hKn12⟩ := u_known (C := RX12) (T := TX12) (N := 33) (n := 33) hts inC12 (hts _ (wsL_in _ (instw12)))
  obtain ⟨cI, hI1, hI2⟩ := arrK (hts _ (wsL_in _ acI))
  obtain ⟨cZ, hZ1, hZ2⟩ := arrK (hts _ (wsL_in _ acZ))
  obtain ⟨cJ, hJ1, hJ2⟩ := arrK (hts _ (wsL_in _ acJ))
  have ao10 : va_AO RX10 s := va_AO.of (hts _ ao10_in)
  have ao4 : va_AO RX4 s := va_AO.of (hts _ ao4_in)
  obtain ⟨cW, hW1, hW2⟩ := arrQ ao10
  obtain ⟨cG, hG1, hG2⟩ := arrQ ao4
  obtain ⟨D, hDc⟩ : ∃ D : va_G, ∀ (k : Nat) (q : vw_C), vwCl[k]? = some q → u_Kn s q.1 q.2.1 q.2.2 (D.1 k) (D.2 k) := by
    refine ⟨(fun k => if k = 0 then c0 else if k = 1 then c1 else if k = 2 then c2 else if k = 3 then c3 else if k = 4 then c4 else if k = 5 then c5 else if k = 6 then c6 else if k = 7 then c7 else if k = 8 then c8 else if k = 9 then c9 else if k = 10 then c10 else if k = 11 then c11 else c12, fun k => if k = 0 then iS0 else if k = 1 then iS1 else if k = 2 then iS2 else if k = 3 then iS3 else if k = 4 then iS4 else if k = 5 then iS5 else if k = 6 then iS6 else if k = 7 then iS7 else if k = 8 then iS8 else if k = 9 then iS9 else if k = 10 then iS10 else if k = 11 then iS11 else iS12), ?_⟩
    intro k q hq
    match k, hq with
    | 0, hq => cases hq; exact hKn0
    | 1, hq => cases hq; exact hKn1
    | 2, hq => cases hq; exact hKn2
    | 3, hq => cases hq; exact hKn3
    | 4, hq => cases hq; exact hKn4
    | 5, hq => cases hq; exact hKn5
    | 6, hq => cases hq; exact hKn6
    | 7, hq => cases hq; exact hKn7
    | 8, hq => cases hq; exact hKn8
    | 9, hq => cases hq; exact hKn9
    | 10, hq => cases hq; exact hKn10
    | 11, hq => cases hq; exact hKn11
    | 12, hq => cases hq; exact hKn12
    | k + 13, hq => simp [vwCl] at hq
  obtain ⟨ca, hca0, hca1, hca2, hca3, hca4⟩ : ∃ ca : Nat → ClassId, ca 0 = cI ∧ ca 1 = cZ ∧ ca 2 = cJ ∧ ca 3 = cW ∧ ca 4 = cG := ⟨fun k => if k = 0 then cI else if k = 1 then cZ else if k = 2 then cJ else if k = 3 then cW else cG, rfl, rfl, rfl, rfl, rfl⟩
  subst hca0; subst hca1; subst hca2; subst hca3; subst hca4
  have hK : va_K D vwCl (tyC ca) s := by
    refine ⟨hDc, fun k q hq => ?_⟩
    match k, hq with
    | 0, hq => cases hq; exact ⟨hI1, hI2⟩
    | 1, hq => cases hq; exact ⟨hZ1, hZ2⟩
    | 2, hq => cases hq; exact ⟨hJ1, hJ2⟩
    | 3, hq => cases hq; exact ⟨hW1, hW2⟩
    | 4, hq => cases hq; exact ⟨hG1, hG2⟩
    | k + 5, hq => simp [tyC] at hq
  have hNZ : NZ s := ⟨fun q hq => va_Nw.of rfl (hts _ (nest_in q hq)), va_Nw.of rfl (hts _ nestF_in)⟩
  have hg := flat_of_before _ hgv
  have hnA : ∀ a : Nat, a < s.heap.size → ¬ (fun q : Nat => s.heap.size ≤ q) a := fun a h => Nat.not_le.mpr h
  obtain ⟨tS, hT1, hT2⟩ := va_Tof (tm := .static RX11 "WORD_LIMITS" "[I") (ty := .int) (N := 4) (f := fun j => .int (lim j)) (A := fun q : Nat => s.heap.size ≤ q) (by decide) (hg _ (by decide +kernel)) (va_eqt (hg (.eq (.length (.static RX11 "WORD_LIMITS" "[I")) (.int 4)) (by decide +kernel))) (fun j hj => by
    rcases (show j = 0 ∨ j = 1 ∨ j = 2 ∨ j = 3 by omega) with rfl | rfl | rfl | rfl
    · exact va_eqt (hg (.eq (.elem (.static RX11 "WORD_LIMITS" "[I") (.int 0)) (.int 1)) (by decide +kernel))
    · exact va_eqt (hg (.eq (.elem (.static RX11 "WORD_LIMITS" "[I") (.int 1)) (.int 6)) (by decide +kernel))
    · exact va_eqt (hg (.eq (.elem (.static RX11 "WORD_LIMITS" "[I") (.int 2)) (.int 36)) (by decide +kernel))
    · exact va_eqt (hg (.eq (.elem (.static RX11 "WORD_LIMITS" "[I") (.int 3)) (.int 216)) (by decide +kernel))) hnA
  have hZC : ZC tS (fun q : Nat => s.heap.size ≤ q) s s.heap := ⟨va_Zref (hts _ ls_in) (hts _ (wsL_in _ ini11)) hT1 hnA, hT2⟩
  obtain ⟨Γ, hΓ⟩ : ∃ Γ : CC, Γ = (p, l, e, room_1, s, m, #[Value.ref b], below, meth, c, 4, D, ca, (fun q : Nat => s.heap.size ≤ q), tS) := ⟨_, rfl⟩
  have C : CY Γ code RL room_1 ret 4 meth.name := by
    rw [hΓ]
    exact ⟨hx, hb, hml, hown, fun w h => hts w (wsL_in w h), hK, ⟨hNZ, ⟨ao10, ao4⟩, hZC, fun _ h => h⟩, hr, hlocks, rfl, rfl, rfl⟩
  have eD : gD Γ = D := by rw [hΓ]; rfl
  have ecs : gca Γ = ca := by rw [hΓ]; rfl
  have hA2 : ∀ q, gA Γ q → s.heap.size ≤ q := by rw [hΓ]; exact fun _ h => h
  have key : RC Γ (lw_Z below #[Value.ref b] s) [] [] 0 0 0 [(0, .ref b)] [] := by
    refine rc_new C (fs := [.null, .null, .null, .null, .null, .null, .null, .null, .null]) (fun q => [(q, .inr (11, [.null, .null, .null, .null, .null, .null, .null, .null, .null]))]) cfX11 clL_7 inst11 ini11 blk11 (fun _ => rfl) (Nat.le_of_ble_eq_true rfl) (Nat.le_of_ble_eq_true rfl) dL_law_0 (fun q => ?_)
    refine rc_dup C dL_law_3 rfl ?_
    refine rc_ctorW C (h := q) (rmc := rmC 7 147 15592 161) [] (kX11_init (gLc Γ) (gca Γ) (gD Γ) (gA Γ) (gS Γ) q n s1 f1) mfX11_init imX11_init rfl mlcL_9 rfl rfl rfl (Nat.le_of_ble_eq_true rfl) ⟨Nat.le_of_ble_eq_true rfl, Nat.le_of_ble_eq_true rfl⟩ ⟨Nat.le_of_ble_eq_true rfl, Nat.le_of_ble_eq_true rfl⟩ dL_law_4 (fun ad0 h0 h6 => ?_)
    refine rc_astore_n C [(1, .ref q), (0, .ref b)] dL_law_7 rfl (by decide) rfl ?_
    refine rc_new C (fs := blM) (fun q2 => [(q2, .inr (12, blM))]) cfX12 clL_10 inst12 ini12 blk12 (fun _ => rfl) (Nat.le_of_ble_eq_true rfl) (Nat.le_of_ble_eq_true rfl) dL_law_8 (fun q2 => ?_)
    refine rc_dup C dL_law_11 rfl ?_
    refine rc_ctorW C (h := q2) (rmc := rmC 7 25 42243 156) [] (kX12_init (gLc Γ) (gca Γ) (gD Γ) (gA Γ) (gS Γ) ad0 q2 n s1 s2 h6 f2) mfX12_init imX12_init rfl mlcL_12 rfl rfl rfl (Nat.le_of_ble_eq_true rfl) ⟨Nat.le_of_ble_eq_true rfl, Nat.le_of_ble_eq_true rfl⟩ ⟨Nat.le_of_ble_eq_true rfl, Nat.le_of_ble_eq_true rfl⟩ dL_law_12 (fun ad1 h1 h62 => ?_)
    obtain ⟨e1, e2⟩ := h1
    have e3 : q = ad1 0 := by rw [e2 0 (by decide)]; exact h0.symm
    subst e3; subst e1
    refine rc_astore_n C [(2, .ref (ad1 148)), (1, .ref (ad1 0)), (0, .ref b)] dL_law_15 rfl (by decide) rfl ?_
    refine rc_rf C (cs := 174) (ss := 57877) ad1 174 174 s2 (Nat.le_refl _) ⟨Nat.le_of_ble_eq_true rfl, Nat.le_of_ble_eq_true rfl⟩ (fun H hP => by rw [List.append_nil] at hP; exact hP) (fun hD => by rw [List.append_nil] at hD; exact hD) h62 f3 (Q' := LQ (rfΓ Γ ad1 174 174 57877)) (fun t ht => by rw [hΓ] at ht; exact ht) (fun C => ?_)
    have hSX : SX (rfΓ Γ ad1 174 174 57877) b L xs := by
      rw [hΓ]
      exact ⟨hX, hbl, Nat.not_le.mpr hbl⟩
    have hLE : LE (rfΓ Γ ad1 174 174 57877) b := by
      rw [hΓ]
      exact ⟨rfl, rfl, Nat.le_of_ble_eq_true rfl, Nat.le_of_ble_eq_true rfl, fun _ h => h⟩
    exact rf_law C hSX hLE
  rw [hΓ] at key
  have hl0 := lv_entry ([.ref b]) (n := 4) (Nat.le_of_ble_eq_true rfl)
  rw [lg_entry_eq]
  exact key s.heap [] _ (fun k q h => by simp at h) ⟨fun i j x y h => by simp at h, fun k q h => by simp at h⟩ va_S.rf hl0
