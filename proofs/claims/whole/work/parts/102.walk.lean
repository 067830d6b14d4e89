def fX9_findOrder (n : Nat) (s0 : PH) : Option (Unit × PH) :=
(lt (si s0 7 5 (nI 0)) fun (s1 : PH) =>
(lt (nI 0) fun (v2 : Int32) =>
(loo2 (fun (recrec5 : Int32 → PH → Option (Unit × PH)) (v3 : Int32) (s4 : PH) =>
(if (nI 6) < v3 then
(some ((), s4))
else
(lt (nI 0) fun (v6 : Int32) =>
(loo2 (fun (recrec9 : Int32 → PH → Option (Unit × PH)) (v7 : Int32) (s8 : PH) =>
(if (nI 6) ≤ v7 then
(lt (v3 + (nI 1)) fun (v10 : Int32) =>
(recrec5 v10 s8))
else
(bd (fX11_bit (s8.1 7 7) v7 s8) fun (r12 : Int32) (s11 : PH) =>
(jn (fun (s13 : PH) =>
(lt (v7 + (nI 1)) fun (v15 : Int32) =>
(recrec9 v15 s13))) (fun (j14 : PH → Option (Unit × PH)) =>
(if r12 = (nI 1) then
(ra 6 v7 (s11.1 11) fun (v16 : Int32) =>
(bd (fJ6_bitCount_0f7a4 v16 s11) fun (r18 : Int32) (s17 : PH) =>
(if r18 = v3 then
(if (nI 6) ≤ (s17.1 7 5) then
(j14 s17)
else
(wa 6 (s17.1 7 5) (lt (si s17 12 (s17.1 7 5).toNatClampNeg v7) fun (s19 : PH) =>
(lt (si s19 7 5 ((s19.1 7 5) + (nI 1))) fun (s20 : PH) =>
(j14 s20)))))
else
(j14 s17))))
else
(j14 s11))))))) n v6 s4)))) n v2 s1)))
set_option maxRecDepth 20000 in
set_option maxHeartbeats 2000000 in
theorem mX9_findOrder (l : Launch) (n : Nat) (s0 : PH) : Ctv 148 l yX9_findOrder cX9_findOrder 3 none (rmOf 1 21) (fun E => [.ref (E.2.1 7)]) s0 (fX9_findOrder n s0) := by
  refine Ctv.of (by decide) rfl (lv := fun E => [(0, .ref (E.2.1 7))]) (fun _ => Nat.le_of_ble_eq_true rfl) (fun _ => rfl) (fun Γ hΓ _ C => ?_)
  subst hΓ
  unfold fX9_findOrder
  refine rf_aload_n C dX9_findOrder_0 rfl 0 rfl ?_
  refine rf_iconst C (v := (nI 0)) dX9_findOrder_1 rfl ?_
  refine rf_puti C cfX9 flX9_27 (by decide) rfl oX9 (fty := .int) rfl rfl rfl (fun _ _ _ _ => Nat.le_of_ble_eq_true rfl) (fun _ _ _ _ => rfl) dX9_findOrder_2 (fun s1 => ?_)
  refine rf_iconst C (v := (nI 0)) dX9_findOrder_5 rfl ?_
  refine rf_istore_n C (fun v2 => [(1, .int v2), (0, .ref ((gE Γ).2.1 7))]) dX9_findOrder_6 rfl (by decide) (fun _ => rfl) (fun v2 => ?_)
  refine rf_sub [1, 0] rfl ?_
  refine rf_loo2 (fun _ _ => True) (fun _ s4 => s4) (fun v3 s4 => [(0, .ref ((gE Γ).2.1 7)), (1, .int v3)]) (fun recrec5 hrec5 v3 s4 _ => ?_) n v2 s1 trivial
  refine rf_iload_n C dX9_findOrder_7 rfl 1 rfl ?_
  refine rf_bipush C (v := (nI 6)) dX9_findOrder_8 rfl ?_
  refine rf_icmp_gt C 87 dX9_findOrder_10 (by decide) (fun _ => ?_) (fun _ => ?_)
  · exact rf_vret C dX9_findOrder_87
  refine rf_iconst C (v := (nI 0)) dX9_findOrder_13 rfl ?_
  refine rf_istore_n C (fun v6 => [(2, .int v6), (0, .ref ((gE Γ).2.1 7)), (1, .int v3)]) dX9_findOrder_14 rfl (by decide) (fun _ => rfl) (fun v6 => ?_)
  refine rf_sub [1, 2, 0] rfl ?_
  refine rf_loo2 (fun _ _ => True) (fun _ s8 => s8) (fun v7 s8 => [(0, .ref ((gE Γ).2.1 7)), (1, .int v3), (2, .int v7)]) (fun recrec9 hrec9 v7 s8 _ => ?_) n v6 s4 trivial
  refine rf_iload_n C dX9_findOrder_15 rfl 2 rfl ?_
  refine rf_bipush C (v := (nI 6)) dX9_findOrder_16 rfl ?_
  refine rf_icmp_ge C 81 dX9_findOrder_18 (by decide) (fun _ => ?_) (fun _ => ?_)
  · refine rf_iinc C (fun v10 => [(1, .int v10), (0, .ref ((gE Γ).2.1 7)), (2, .int v7)]) dX9_findOrder_81 1 rfl rfl (by decide) (fun _ => rfl) (fun v10 => ?_)
    refine rf_goto C 7 dX9_findOrder_84 (by decide) ?_
    exact rf_sub [1, 0] rfl (hrec5 v10 s8 trivial)
  refine rf_aload_n C dX9_findOrder_21 rfl 0 rfl ?_
  refine rf_get C (v := .int (s8.1 7 7)) cfX9 flX9_34 (by decide) oX9 rfl dX9_findOrder_22 ?_
  refine rf_iload_n C dX9_findOrder_25 rfl 2 rfl ?_
  refine rf_callSNi C (rmc := rmOf 0 0) [.int (s8.1 7 7), .int v7] (by decide) (mX11_bit (gL Γ) (s8.1 7 7) v7 s8) mfX11_bit msX11_bit (by decide) rfl rfl rfl (Nat.le_of_ble_eq_true rfl) ⟨Nat.le_of_ble_eq_true rfl, Nat.le_of_ble_eq_true rfl⟩ dX9_findOrder_26 (fun r12 s11 => ?_)
  refine rf_iconst C (v := (nI 1)) dX9_findOrder_29 rfl ?_
  refine rf_jn1 (fun _ => True) (fun  s13 => s13) (fun s13 => [(0, .ref ((gE Γ).2.1 7)), (1, .int v3), (2, .int v7)]) (fun s13 => []) 75 (fun s13 _ => ?_) (fun j14 hj14 => ?_)
  · refine rf_iinc C (fun v15 => [(2, .int v15), (0, .ref ((gE Γ).2.1 7)), (1, .int v3)]) dX9_findOrder_75 2 rfl rfl (by decide) (fun _ => rfl) (fun v15 => ?_)
    refine rf_goto C 15 dX9_findOrder_78 (by decide) ?_
    exact rf_sub [1, 2, 0] rfl (hrec9 v15 s13 trivial)
  refine rf_icmp_ne C 75 dX9_findOrder_30 (by decide) (fun _ => ?_) (fun _ => ?_)
  · exact rf_sub [0, 1, 2] rfl (hj14 s11 trivial)
  refine rf_aload_n C dX9_findOrder_33 rfl 0 rfl ?_
  refine rf_get C (v := .ref ((gE Γ).2.1 11)) cfX9 flX9_21 (by decide) oX9 rfl dX9_findOrder_34 ?_
  refine rf_iload_n C dX9_findOrder_37 rfl 2 rfl ?_
  refine rf_iald C ar11 dX9_findOrder_38 (fun v16 => ?_)
  refine rf_callSi C (rmc := rmOf 0 0) [.int v16] (by decide) (mJ6_bitCount_0f7a4 (gL Γ) v16 s11) mfJ6_bitCount_0f7a4 msJ6_bitCount_0f7a4 mlX9_112 rfl rfl rfl (Nat.le_of_ble_eq_true rfl) ⟨Nat.le_of_ble_eq_true rfl, Nat.le_of_ble_eq_true rfl⟩ dX9_findOrder_39 (fun r18 s17 => ?_)
  refine rf_iload_n C dX9_findOrder_42 rfl 1 rfl ?_
  refine rf_icmp_ne C 75 dX9_findOrder_43 (by decide) (fun _ => ?_) (fun _ => ?_)
  · exact rf_sub [0, 1, 2] rfl (hj14 s17 trivial)
  refine rf_aload_n C dX9_findOrder_46 rfl 0 rfl ?_
  refine rf_get C (v := .int (s17.1 7 5)) cfX9 flX9_27 (by decide) oX9 rfl dX9_findOrder_47 ?_
  refine rf_bipush C (v := (nI 6)) dX9_findOrder_50 rfl ?_
  refine rf_icmp_ge C 75 dX9_findOrder_52 (by decide) (fun _ => ?_) (fun _ => ?_)
  · exact rf_sub [0, 1, 2] rfl (hj14 s17 trivial)
  refine rf_aload_n C dX9_findOrder_55 rfl 0 rfl ?_
  refine rf_get C (v := .ref ((gE Γ).2.1 12)) cfX9 flX9_24 (by decide) oX9 rfl dX9_findOrder_56 ?_
  refine rf_aload_n C dX9_findOrder_59 rfl 0 rfl ?_
  refine rf_get C (v := .int (s17.1 7 5)) cfX9 flX9_27 (by decide) oX9 rfl dX9_findOrder_60 ?_
  refine rf_iload_n C dX9_findOrder_63 rfl 2 rfl ?_
  refine rf_iast C ar12 dX9_findOrder_64 (fun s19 => ?_)
  refine rf_aload_n C dX9_findOrder_65 rfl 0 rfl ?_
  refine rf_dup C dX9_findOrder_66 rfl ?_
  refine rf_get C (v := .int (s19.1 7 5)) cfX9 flX9_27 (by decide) oX9 rfl dX9_findOrder_67 ?_
  refine rf_iconst C (v := (nI 1)) dX9_findOrder_70 rfl ?_
  refine rf_iadd C dX9_findOrder_71 ?_
  refine rf_puti C cfX9 flX9_27 (by decide) rfl oX9 (fty := .int) rfl rfl rfl (fun _ _ _ _ => Nat.le_of_ble_eq_true rfl) (fun _ _ _ _ => rfl) dX9_findOrder_72 (fun s20 => ?_)
  exact rf_sub [0, 1, 2] rfl (hj14 s20 trivial)

def fX9_find (n : Nat) (a1 : Nat) (s0 : PH) : Option (Unit × PH) :=
(bd (fX9_findFewest n a1 s0) fun _ (s1 : PH) =>
(bd (fX9_findReachable n a1 s1) fun _ (s2 : PH) =>
(bd (fX9_findRelations n a1 s2) fun _ (s3 : PH) =>
(bd (fX9_findLoops n 10 6 s3) fun (r5 : Int32) (s4 : PH) =>
(lt (si s4 7 8 r5) fun (s6 : PH) =>
(bd (fX9_findLoops n 11 6 s6) fun (r8 : Int32) (s7 : PH) =>
(lt (si s7 7 9 r8) fun (s9 : PH) =>
(bd (fX9_findOrder n s9) fun _ (s10 : PH) =>
(some ((), s10))))))))))
set_option maxRecDepth 20000 in
set_option maxHeartbeats 2000000 in
theorem mX9_find (l : Launch) (n : Nat) (a1 : Nat) (s0 : PH) (ha1 : a1 < 6) : Ctv 148 l yX9_find cX9_find 2 none (rmOf 3 72) (fun E => [.ref (E.2.1 7), .ref (E.2.1 (gId a1 0))]) s0 (fX9_find n a1 s0) := by
  refine Ctv.of (by decide) rfl (lv := fun E => [(0, .ref (E.2.1 7)), (1, .ref (E.2.1 (gId a1 0)))]) (fun _ => Nat.le_of_ble_eq_true rfl) (fun _ => rfl) (fun Γ hΓ _ C => ?_)
  subst hΓ
  unfold fX9_find
  refine rf_aload_n C dX9_find_0 rfl 0 rfl ?_
  refine rf_aload_n C dX9_find_1 rfl 1 rfl ?_
  refine rf_callVv C (rmc := rmOf 2 48) [.ref ((gE Γ).2.1 (gId a1 0))] (by decide) (mX9_findFewest (gL Γ) n a1 s0 ha1) mfX9_findFewest mvX9_findFewest mlX9_43 rfl oX9 rfl rfl rfl (Nat.le_of_ble_eq_true rfl) ⟨Nat.le_of_ble_eq_true rfl, Nat.le_of_ble_eq_true rfl⟩ dX9_find_2 (fun s1 => ?_)
  refine rf_aload_n C dX9_find_5 rfl 0 rfl ?_
  refine rf_aload_n C dX9_find_6 rfl 1 rfl ?_
  refine rf_callVv C (rmc := rmOf 2 46) [.ref ((gE Γ).2.1 (gId a1 0))] (by decide) (mX9_findReachable (gL Γ) n a1 s1 ha1) mfX9_findReachable mvX9_findReachable mlX9_47 rfl oX9 rfl rfl rfl (Nat.le_of_ble_eq_true rfl) ⟨Nat.le_of_ble_eq_true rfl, Nat.le_of_ble_eq_true rfl⟩ dX9_find_7 (fun s2 => ?_)
  refine rf_aload_n C dX9_find_10 rfl 0 rfl ?_
  refine rf_aload_n C dX9_find_11 rfl 1 rfl ?_
  refine rf_callVv C (rmc := rmOf 2 48) [.ref ((gE Γ).2.1 (gId a1 0))] (by decide) (mX9_findRelations (gL Γ) n a1 s2 ha1) mfX9_findRelations mvX9_findRelations mlX9_50 rfl oX9 rfl rfl rfl (Nat.le_of_ble_eq_true rfl) ⟨Nat.le_of_ble_eq_true rfl, Nat.le_of_ble_eq_true rfl⟩ dX9_find_12 (fun s3 => ?_)
  refine rf_aload_n C dX9_find_15 rfl 0 rfl ?_
  refine rf_aload_n C dX9_find_16 rfl 0 rfl ?_
  refine rf_get C (v := .ref ((gE Γ).2.1 10)) cfX9 flX9_18 (by decide) oX9 rfl dX9_find_17 ?_
  refine rf_callSi C (rmc := rmOf 1 21) [.ref ((gE Γ).2.1 10)] (by decide) (mX9_findLoops (gL Γ) n 10 6 s3 ar10) mfX9_findLoops msX9_findLoops mlX9_53 rfl rfl rfl (Nat.le_of_ble_eq_true rfl) ⟨Nat.le_of_ble_eq_true rfl, Nat.le_of_ble_eq_true rfl⟩ dX9_find_20 (fun r5 s4 => ?_)
  refine rf_puti C cfX9 flX9_37 (by decide) rfl oX9 (fty := .int) rfl rfl rfl (fun _ _ _ _ => Nat.le_of_ble_eq_true rfl) (fun _ _ _ _ => rfl) dX9_find_23 (fun s6 => ?_)
  refine rf_aload_n C dX9_find_26 rfl 0 rfl ?_
  refine rf_aload_n C dX9_find_27 rfl 0 rfl ?_
  refine rf_get C (v := .ref ((gE Γ).2.1 11)) cfX9 flX9_21 (by decide) oX9 rfl dX9_find_28 ?_
  refine rf_callSi C (rmc := rmOf 1 21) [.ref ((gE Γ).2.1 11)] (by decide) (mX9_findLoops (gL Γ) n 11 6 s6 ar11) mfX9_findLoops msX9_findLoops mlX9_53 rfl rfl rfl (Nat.le_of_ble_eq_true rfl) ⟨Nat.le_of_ble_eq_true rfl, Nat.le_of_ble_eq_true rfl⟩ dX9_find_31 (fun r8 s7 => ?_)
  refine rf_puti C cfX9 flX9_40 (by decide) rfl oX9 (fty := .int) rfl rfl rfl (fun _ _ _ _ => Nat.le_of_ble_eq_true rfl) (fun _ _ _ _ => rfl) dX9_find_34 (fun s9 => ?_)
  refine rf_aload_n C dX9_find_37 rfl 0 rfl ?_
  refine rf_callVv C (rmc := rmOf 1 21) [] (by decide) (mX9_findOrder (gL Γ) n s9) mfX9_findOrder mvX9_findOrder mlX9_57 rfl oX9 rfl rfl rfl (Nat.le_of_ble_eq_true rfl) ⟨Nat.le_of_ble_eq_true rfl, Nat.le_of_ble_eq_true rfl⟩ dX9_find_38 (fun s10 => ?_)
  exact rf_vret C dX9_find_41

def fX3_wordsOf (a1 : Int32) (s0 : PH) : Option (Nat × PH) :=
(bd (fX11_isLetter a1 s0) fun (r2 : Int32) (s1 : PH) =>
(if r2 = 0 then
(ra 6 (a1 - (nI 10)) (fun j => 6 + j) fun (w3 : Nat) =>
(some (w3, s1)))
else
(ra 5 a1 (fun j => 1 + j) fun (w4 : Nat) =>
(some (w4, s1)))))
set_option maxRecDepth 20000 in
set_option maxHeartbeats 2000000 in
theorem mX3_wordsOf (l : Launch) (a1 : Int32) (s0 : PH) : Ctw 148 l yX3_wordsOf cX3_wordsOf 2 (some (.object "LookaheadDepths$WordSet")) (rmOf 1 20) (fun E => [.ref (E.2.1 13), .int a1]) s0 (fX3_wordsOf a1 s0) := by
  refine Ctw.of (by decide) rfl (lv := fun E => [(0, .ref (E.2.1 13)), (1, .int a1)]) (fun _ => Nat.le_of_ble_eq_true rfl) (fun _ => rfl) (fun Γ hΓ _ C => ?_)
  subst hΓ
  unfold fX3_wordsOf
  refine rf_iload_n C dX3_wordsOf_0 rfl 1 rfl ?_
  refine rf_callSNi C (rmc := rmOf 0 0) [.int a1] (by decide) (mX11_isLetter (gL Γ) a1 s0) mfX11_isLetter msX11_isLetter (by decide) rfl rfl rfl (Nat.le_of_ble_eq_true rfl) ⟨Nat.le_of_ble_eq_true rfl, Nat.le_of_ble_eq_true rfl⟩ dX3_wordsOf_1 (fun r2 s1 => ?_)
  refine rf_if_eq C 16 dX3_wordsOf_4 (by decide) (fun _ => ?_) (fun _ => ?_)
  · refine rf_aload_n C dX3_wordsOf_16 rfl 0 rfl ?_
    refine rf_get C (v := .ref ((gE Γ).2.1 15)) cfX3 flX3_26 (by decide) oX3 rfl dX3_wordsOf_17 ?_
    refine rf_iload_n C dX3_wordsOf_20 rfl 1 rfl ?_
    refine rf_bipush C (v := (nI 10)) dX3_wordsOf_21 rfl ?_
    refine rf_isub C dX3_wordsOf_23 ?_
    refine rf_aldW C ar15 dX3_wordsOf_24 (fun w3 hw3 => ?_)
    exact rf_wret C (Nat.lt_of_lt_of_le hw3 (by decide)) dX3_wordsOf_25
  refine rf_aload_n C dX3_wordsOf_7 rfl 0 rfl ?_
  refine rf_get C (v := .ref ((gE Γ).2.1 14)) cfX3 flX3_22 (by decide) oX3 rfl dX3_wordsOf_8 ?_
  refine rf_iload_n C dX3_wordsOf_11 rfl 1 rfl ?_
  refine rf_aldW C ar14 dX3_wordsOf_12 (fun w4 hw4 => ?_)
  refine rf_goto C 25 dX3_wordsOf_13 (by decide) ?_
  exact rf_wret C (Nat.lt_of_lt_of_le hw4 (by decide)) dX3_wordsOf_25

def fJ7_fill_d0a16 (n : Nat) (a1 a1n : Nat) (a2 : Int64) (s0 : PH) : Option (Unit × PH) :=
(lt (nI 0) fun (v1 : Int32) =>
(lt (nI a1n) fun (v2 : Int32) =>
(loo2 (fun (recrec5 : Int32 → PH → Option (Unit × PH)) (v3 : Int32) (s4 : PH) =>
(if v2 ≤ v3 then
(some ((), s4))
else
(wa a1n v3 (lt (sl s4 a1 v3.toNatClampNeg a2) fun (s6 : PH) =>
(lt (v3 + (nI 1)) fun (v7 : Int32) =>
(recrec5 v7 s6)))))) n v1 s0)))
set_option maxRecDepth 20000 in
set_option maxHeartbeats 2000000 in
theorem mJ7_fill_d0a16 (l : Launch) (n : Nat) (a1 a1n : Nat) (a2 : Int64) (s0 : PH) (ha1 : isJ 148 a1 a1n) : Ctv 148 l yJ7_fill_d0a16 cJ7_fill_d0a16 5 none (rmOf 0 0) (fun E => [.ref (E.2.1 a1), .long a2]) s0 (fJ7_fill_d0a16 n a1 a1n a2 s0) := by
  refine Ctv.of (by decide) rfl (lv := fun E => [(0, .ref (E.2.1 a1)), (1, .long a2)]) (fun _ => Nat.le_of_ble_eq_true rfl) (fun _ => rfl) (fun Γ hΓ _ C => ?_)
  subst hΓ
  unfold fJ7_fill_d0a16
  refine rf_iconst C (v := (nI 0)) dJ7_fill_d0a16_0 rfl ?_
  refine rf_istore_n C (fun v1 => [(3, .int v1), (0, .ref ((gE Γ).2.1 a1)), (1, .long a2)]) dJ7_fill_d0a16_1 rfl (by decide) (fun _ => rfl) (fun v1 => ?_)
  refine rf_aload_n C dJ7_fill_d0a16_2 rfl 1 rfl ?_
  refine rf_alenJ C (v := (nI a1n)) ha1 rfl dJ7_fill_d0a16_3 ?_
  refine rf_istore C (fun v2 => [(4, .int v2), (3, .int v1), (0, .ref ((gE Γ).2.1 a1)), (1, .long a2)]) dJ7_fill_d0a16_4 (by decide) (fun _ => rfl) (fun v2 => ?_)
  refine rf_sub [2, 3, 1, 0] rfl ?_
  refine rf_loo2 (fun _ _ => True) (fun _ s4 => s4) (fun v3 s4 => [(0, .ref ((gE Γ).2.1 a1)), (1, .long a2), (3, .int v3), (4, .int v2)]) (fun recrec5 hrec5 v3 s4 _ => ?_) n v1 s0 trivial
  refine rf_iload_n C dJ7_fill_d0a16_6 rfl 2 rfl ?_
  refine rf_iload C dJ7_fill_d0a16_7 3 rfl ?_
  refine rf_icmp_ge C 22 dJ7_fill_d0a16_9 (by decide) (fun _ => ?_) (fun _ => ?_)
  · exact rf_vret C dJ7_fill_d0a16_22
  refine rf_aload_n C dJ7_fill_d0a16_12 rfl 0 rfl ?_
  refine rf_iload_n C dJ7_fill_d0a16_13 rfl 2 rfl ?_
  refine rf_lload_n C dJ7_fill_d0a16_14 rfl 1 rfl ?_
  refine rf_last C ha1 dJ7_fill_d0a16_15 (fun s6 => ?_)
  refine rf_iinc C (fun v7 => [(3, .int v7), (0, .ref ((gE Γ).2.1 a1)), (1, .long a2), (4, .int v2)]) dJ7_fill_d0a16_16 2 rfl rfl (by decide) (fun _ => rfl) (fun v7 => ?_)
  refine rf_goto C 6 dJ7_fill_d0a16_19 (by decide) ?_
  exact rf_sub [1, 2, 0, 3] rfl (hrec5 v7 s6 trivial)

def fX10_drop (n : Nat) (t : Nat) (s0 : PH) : Option (Unit × PH) :=
(bd (fJ7_fill_d0a16 n (wId t 1) 6 (0 : Int64) s0) fun _ (s1 : PH) =>
(lt (sl s1 (wId t 0) 1 (0 : Int64)) fun (s2 : PH) =>
(lt (sl s2 (wId t 0) 2 (0 : Int64)) fun (s3 : PH) =>
(some ((), s3)))))
set_option maxRecDepth 20000 in
set_option maxHeartbeats 2000000 in
theorem mX10_drop (l : Launch) (n : Nat) (t : Nat) (s0 : PH) (ht : t < 36) : Ctv 148 l yX10_drop cX10_drop 1 none (rmOf 1 24) (fun E => [.ref (E.2.1 (wId t 0))]) s0 (fX10_drop n t s0) := by
  refine Ctv.of (by decide) rfl (lv := fun E => [(0, .ref (E.2.1 (wId t 0)))]) (fun _ => Nat.le_of_ble_eq_true rfl) (fun _ => rfl) (fun Γ hΓ _ C => ?_)
  subst hΓ
  unfold fX10_drop
  refine rf_aload_n C dX10_drop_0 rfl 0 rfl ?_
  refine rf_get C (v := .ref ((gE Γ).2.1 (wId t 1))) cfX10 flX10_9 (by decide) (oX10 ht) rfl dX10_drop_1 ?_
  refine rf_lconst C (v := (0 : Int64)) dX10_drop_4 rfl ?_
  refine rf_callSv C (rmc := rmOf 0 0) [.ref ((gE Γ).2.1 (wId t 1)), .long (0 : Int64)] (by decide) (mJ7_fill_d0a16 (gL Γ) n (wId t 1) 6 (0 : Int64) s0 (arW1 ht)) mfJ7_fill_d0a16 msJ7_fill_d0a16 mlX10_22 rfl rfl rfl (Nat.le_of_ble_eq_true rfl) ⟨Nat.le_of_ble_eq_true rfl, Nat.le_of_ble_eq_true rfl⟩ dX10_drop_5 (fun s1 => ?_)
  refine rf_aload_n C dX10_drop_8 rfl 0 rfl ?_
  refine rf_lconst C (v := (0 : Int64)) dX10_drop_9 rfl ?_
  refine rf_putl C cfX10 flX10_15 (by decide) rfl (oX10 ht) (fty := .long) rfl rfl rfl (fun _ _ _ _ => Nat.le_of_ble_eq_true rfl) (fun _ _ _ _ => rfl) dX10_drop_10 (fun s2 => ?_)
  refine rf_aload_n C dX10_drop_13 rfl 0 rfl ?_
  refine rf_lconst C (v := (0 : Int64)) dX10_drop_14 rfl ?_
  refine rf_putl C cfX10 flX10_19 (by decide) rfl (oX10 ht) (fty := .long) rfl rfl rfl (fun _ _ _ _ => Nat.le_of_ble_eq_true rfl) (fun _ _ _ _ => rfl) dX10_drop_15 (fun s3 => ?_)
  exact rf_vret C dX10_drop_18

def fX10_joinPairs (n : Nat) (a1 : Int64) (a2 : Nat) (s0 : PH) : Option (Int64 × PH) :=
(lt (a1 &&& (-64 : Int64)) fun (u1 : Int64) =>
(jn (fun (u2 : Int64) (s3 : PH) =>
(if (a1 &&& (62 : Int64)) = (0 : Int64) then
(some (u2, s3))
else
(lt (nI 1) fun (v5 : Int32) =>
(loo3 (fun (recrec9 : Int64 → Int32 → PH → Option (Int64 × PH)) (u6 : Int64) (v7 : Int32) (s8 : PH) =>
(if (nI 6) ≤ v7 then
(some (u6, s8))
else
(jn (fun (u10 : Int64) (s11 : PH) =>
(lt (v7 + (nI 1)) fun (v13 : Int32) =>
(recrec9 u10 v13 s11))) (fun (j12 : Int64 → PH → Option (Int64 × PH)) =>
(if ((a1 >>> (v7.toInt64 &&& 63)) &&& (1 : Int64)) = (0 : Int64) then
(j12 u6 s8)
else
(lt (u6 ||| (((s8.2.1 (wId a2 0) 2) &&& (1 : Int64)) <<< (v7.toInt64 &&& 63))) fun (u14 : Int64) =>
(lt (u14 ||| (((s8.2.1 (wId a2 0) 2) &&& (62 : Int64)) <<< (((nI 6) * v7).toInt64 &&& 63))) fun (u15 : Int64) =>
(j12 u15 s8)))))))) n u2 v5 s3)))) (fun (j4 : Int64 → PH → Option (Int64 × PH)) =>
(if (a1 &&& (1 : Int64)) = (0 : Int64) then
(j4 u1 s0)
else
(lt (u1 ||| (s0.2.1 (wId a2 0) 1)) fun (u16 : Int64) =>
(j4 u16 s0))))))
set_option maxRecDepth 20000 in
set_option maxHeartbeats 2000000 in
theorem mX10_joinPairs (l : Launch) (n : Nat) (a1 : Int64) (a2 : Nat) (s0 : PH) (ha2 : a2 < 36) : Ctl 148 l yX10_joinPairs cX10_joinPairs 6 (some .long) (rmOf 0 0) (fun E => [.long a1, .ref (E.2.1 (wId a2 0))]) s0 (fX10_joinPairs n a1 a2 s0) := by
  refine Ctl.of (by decide) rfl (lv := fun E => [(0, .long a1), (2, .ref (E.2.1 (wId a2 0)))]) (fun _ => Nat.le_of_ble_eq_true rfl) (fun _ => rfl) (fun Γ hΓ _ C => ?_)
  subst hΓ
  unfold fX10_joinPairs
  refine rf_lload_n C dX10_joinPairs_0 rfl 0 rfl ?_
  refine rf_ldc2 C dX10_joinPairs_1 klX10_39 ?_
  refine rf_land C dX10_joinPairs_4 ?_
  refine rf_lstore_n C (fun u1 => [(3, .long u1), (0, .long a1), (2, .ref ((gE Γ).2.1 (wId a2 0)))]) dX10_joinPairs_5 rfl (by decide) (fun _ => rfl) (fun u1 => ?_)
  refine rf_lload_n C dX10_joinPairs_6 rfl 1 rfl ?_
  refine rf_lconst C (v := (1 : Int64)) dX10_joinPairs_7 rfl ?_
  refine rf_land C dX10_joinPairs_8 ?_
  refine rf_lconst C (v := (0 : Int64)) dX10_joinPairs_9 rfl ?_
  refine rf_jn2 (fun _ _ => True) (fun _ s3 => s3) (fun u2 s3 => [(0, .long a1), (2, .ref ((gE Γ).2.1 (wId a2 0))), (3, .long u2)]) (fun u2 s3 => []) 21 (fun u2 s3 _ => ?_) (fun j4 hj4 => ?_)
  · refine rf_lload_n C dX10_joinPairs_21 rfl 0 rfl ?_
    refine rf_ldc2 C dX10_joinPairs_22 klX10_41 ?_
    refine rf_land C dX10_joinPairs_25 ?_
    refine rf_lconst C (v := (0 : Int64)) dX10_joinPairs_26 rfl ?_
    refine rf_lcmp_ne C 33 dX10_joinPairs_27 dX10_joinPairs_28 (by decide) (fun _ => ?_) (fun _ => ?_)
    · refine rf_iconst C (v := (nI 1)) dX10_joinPairs_33 rfl ?_
      refine rf_istore C (fun v5 => [(5, .int v5), (0, .long a1), (2, .ref ((gE Γ).2.1 (wId a2 0))), (3, .long u2)]) dX10_joinPairs_34 (by decide) (fun _ => rfl) (fun v5 => ?_)
      refine rf_sub [1, 2, 3, 0] rfl ?_
      refine rf_loo3 (fun _ _ _ => True) (fun _ _ s8 => s8) (fun u6 v7 s8 => [(0, .long a1), (2, .ref ((gE Γ).2.1 (wId a2 0))), (3, .long u6), (5, .int v7)]) (fun recrec9 hrec9 u6 v7 s8 _ => ?_) n u2 v5 s3 trivial
      refine rf_iload C dX10_joinPairs_36 3 rfl ?_
      refine rf_bipush C (v := (nI 6)) dX10_joinPairs_38 rfl ?_
      refine rf_icmp_ge C 89 dX10_joinPairs_40 (by decide) (fun _ => ?_) (fun _ => ?_)
      · refine rf_lload_n C dX10_joinPairs_89 rfl 2 rfl ?_
        exact rf_lret C dX10_joinPairs_90
      refine rf_lload_n C dX10_joinPairs_43 rfl 0 rfl ?_
      refine rf_iload C dX10_joinPairs_44 3 rfl ?_
      refine rf_lshr C dX10_joinPairs_46 ?_
      refine rf_lconst C (v := (1 : Int64)) dX10_joinPairs_47 rfl ?_
      refine rf_land C dX10_joinPairs_48 ?_
      refine rf_lconst C (v := (0 : Int64)) dX10_joinPairs_49 rfl ?_
      refine rf_jn2 (fun _ _ => True) (fun _ s11 => s11) (fun u10 s11 => [(0, .long a1), (2, .ref ((gE Γ).2.1 (wId a2 0))), (3, .long u10), (5, .int v7)]) (fun u10 s11 => []) 83 (fun u10 s11 _ => ?_) (fun j12 hj12 => ?_)
      · refine rf_iinc C (fun v13 => [(5, .int v13), (0, .long a1), (2, .ref ((gE Γ).2.1 (wId a2 0))), (3, .long u10)]) dX10_joinPairs_83 3 rfl rfl (by decide) (fun _ => rfl) (fun v13 => ?_)
        refine rf_goto C 36 dX10_joinPairs_86 (by decide) ?_
        exact rf_sub [1, 2, 3, 0] rfl (hrec9 u10 v13 s11 trivial)
      refine rf_lcmp_eq C 83 dX10_joinPairs_50 dX10_joinPairs_51 (by decide) (fun _ => ?_) (fun _ => ?_)
      · exact rf_sub [0, 1, 2, 3] rfl (hj12 u6 s8 trivial)
      refine rf_lload_n C dX10_joinPairs_54 rfl 2 rfl ?_
      refine rf_aload_n C dX10_joinPairs_55 rfl 1 rfl ?_
      refine rf_get C (v := .long (s8.2.1 (wId a2 0) 2)) cfX10 flX10_19 (by decide) (oX10 ha2) rfl dX10_joinPairs_56 ?_
      refine rf_lconst C (v := (1 : Int64)) dX10_joinPairs_59 rfl ?_
      refine rf_land C dX10_joinPairs_60 ?_
      refine rf_iload C dX10_joinPairs_61 3 rfl ?_
      refine rf_lshl C dX10_joinPairs_63 ?_
      refine rf_lor C dX10_joinPairs_64 ?_
      refine rf_lstore_n C (fun u14 => [(3, .long u14), (0, .long a1), (2, .ref ((gE Γ).2.1 (wId a2 0))), (5, .int v7)]) dX10_joinPairs_65 rfl (by decide) (fun _ => rfl) (fun u14 => ?_)
      refine rf_lload_n C dX10_joinPairs_66 rfl 0 rfl ?_
      refine rf_aload_n C dX10_joinPairs_67 rfl 2 rfl ?_
      refine rf_get C (v := .long (s8.2.1 (wId a2 0) 2)) cfX10 flX10_19 (by decide) (oX10 ha2) rfl dX10_joinPairs_68 ?_
      refine rf_ldc2 C dX10_joinPairs_71 klX10_41 ?_
      refine rf_land C dX10_joinPairs_74 ?_
      refine rf_bipush C (v := (nI 6)) dX10_joinPairs_75 rfl ?_
      refine rf_iload C dX10_joinPairs_77 3 rfl ?_
      refine rf_imul C dX10_joinPairs_79 ?_
      refine rf_lshl C dX10_joinPairs_80 ?_
      refine rf_lor C dX10_joinPairs_81 ?_
      refine rf_lstore_n C (fun u15 => [(3, .long u15), (0, .long a1), (2, .ref ((gE Γ).2.1 (wId a2 0))), (5, .int v7)]) dX10_joinPairs_82 rfl (by decide) (fun _ => rfl) (fun u15 => ?_)
      exact rf_sub [1, 2, 0, 3] rfl (hj12 u15 s8 trivial)
    refine rf_lload_n C dX10_joinPairs_31 rfl 2 rfl ?_
    exact rf_lret C dX10_joinPairs_32
  refine rf_lcmp_eq C 21 dX10_joinPairs_10 dX10_joinPairs_11 (by decide) (fun _ => ?_) (fun _ => ?_)
  · exact rf_sub [1, 2, 0] rfl (hj4 u1 s0 trivial)
  refine rf_lload_n C dX10_joinPairs_14 rfl 0 rfl ?_
  refine rf_aload_n C dX10_joinPairs_15 rfl 2 rfl ?_
  refine rf_get C (v := .long (s0.2.1 (wId a2 0) 1)) cfX10 flX10_15 (by decide) (oX10 ha2) rfl dX10_joinPairs_16 ?_
  refine rf_lor C dX10_joinPairs_19 ?_
  refine rf_lstore_n C (fun u16 => [(3, .long u16), (0, .long a1), (2, .ref ((gE Γ).2.1 (wId a2 0)))]) dX10_joinPairs_20 rfl (by decide) (fun _ => rfl) (fun u16 => ?_)
  exact rf_sub [1, 2, 0] rfl (hj4 u16 s0 trivial)

def fX10_join (n : Nat) (t : Nat) (a1 : Nat) (a2 : Nat) (s0 : PH) : Option (Unit × PH) :=
(jn (fun (s1 : PH) =>
(bd (fX10_drop n t s1) fun _ (s3 : PH) =>
(some ((), s3)))) (fun (j2 : PH → Option (Unit × PH)) =>
(if (s0.2.1 (wId a1 0) 2) = (0 : Int64) then
(j2 s0)
else
(if (s0.2.1 (wId a2 0) 2) = (0 : Int64) then
(j2 s0)
else
(ra 6 (nI 0) (s0.2.1 (wId a1 1)) fun (u4 : Int64) =>
(jn (fun (v5 : Int32) (s6 : PH) =>
(lt v5 fun (v8 : Int32) =>
(ra 6 (nI 0) (s6.2.1 (wId a1 1)) fun (u9 : Int64) =>
(ra 6 (nI 0) (s6.2.1 (wId a2 1)) fun (u10 : Int64) =>
(wa 6 (nI 0) (lt (sl s6 (wId t 1) (nI 0).toNatClampNeg (u9 &&& u10)) fun (s11 : PH) =>
(lt (nI 1) fun (v12 : Int32) =>
(loo2 (fun (recrec15 : Int32 → PH → Option (Unit × PH)) (v13 : Int32) (s14 : PH) =>
(if (nI 6) ≤ v13 then
(bd (fX10_joinPairs n (s14.2.1 (wId a1 0) 1) a2 s14) fun (r17 : Int64) (s16 : PH) =>
(lt (sl s16 (wId t 0) 1 r17) fun (s18 : PH) =>
(jn (fun (u19 : Int64) (s20 : PH) =>
(lt (sl s20 (wId t 0) 2 (((s18.2.1 (wId a1 0) 2) &&& (-2 : Int64)) ||| u19)) fun (s22 : PH) =>
(some ((), s22)))) (fun (j21 : Int64 → PH → Option (Unit × PH)) =>
(if v8 = 0 then
(j21 (0 : Int64) s18)
else
(j21 (s18.2.1 (wId a2 0) 2) s18))))))
else
(ra 6 v13 (s14.2.1 (wId a1 1)) fun (u23 : Int64) =>
(bd (fX10_joinPairs n u23 a2 s14) fun (r25 : Int64) (s24 : PH) =>
(jn (fun (u26 : Int64) (s27 : PH) =>
(wa 6 v13 (lt (sl s27 (wId t 1) v13.toNatClampNeg (r25 ||| u26)) fun (s29 : PH) =>
(lt (v13 + (nI 1)) fun (v30 : Int32) =>
(recrec15 v30 s29))))) (fun (j28 : Int64 → PH → Option (Unit × PH)) =>
(if v8 = 0 then
(j28 (0 : Int64) s24)
else
(ra 6 v13 (s24.2.1 (wId a2 1)) fun (u31 : Int64) =>
(j28 u31 s24))))))))) n v12 s11)))))))) (fun (j7 : Int32 → PH → Option (Unit × PH)) =>
(if u4 = (0 : Int64) then
(j7 (nI 0) s0)
else
(j7 (nI 1) s0)))))))))
set_option maxRecDepth 20000 in
set_option maxHeartbeats 2000000 in
theorem mX10_join (l : Launch) (n : Nat) (t : Nat) (a1 : Nat) (a2 : Nat) (s0 : PH) (ht : t < 36) (ha1 : a1 < 36) (ha2 : a2 < 36) : Ctv 148 l yX10_join cX10_join 5 none (rmOf 2 44) (fun E => [.ref (E.2.1 (wId t 0)), .ref (E.2.1 (wId a1 0)), .ref (E.2.1 (wId a2 0))]) s0 (fX10_join n t a1 a2 s0) := by
  refine Ctv.of (by decide) rfl (lv := fun E => [(0, .ref (E.2.1 (wId t 0))), (1, .ref (E.2.1 (wId a1 0))), (2, .ref (E.2.1 (wId a2 0)))]) (fun _ => Nat.le_of_ble_eq_true rfl) (fun _ => rfl) (fun Γ hΓ _ C => ?_)
  subst hΓ
  unfold fX10_join
  refine rf_aload_n C dX10_join_0 rfl 1 rfl ?_
  refine rf_get C (v := .long (s0.2.1 (wId a1 0) 2)) cfX10 flX10_19 (by decide) (oX10 ha1) rfl dX10_join_1 ?_
  refine rf_lconst C (v := (0 : Int64)) dX10_join_4 rfl ?_
  refine rf_jn1 (fun _ => True) (fun  s1 => s1) (fun s1 => [(0, .ref ((gE Γ).2.1 (wId t 0)))]) (fun s1 => []) 18 (fun s1 _ => ?_) (fun j2 hj2 => ?_)
  · refine rf_aload_n C dX10_join_18 rfl 0 rfl ?_
    refine rf_callVv C (rmc := rmOf 1 24) [] (by decide) (mX10_drop (gL Γ) n t s1 ht) mfX10_drop mvX10_drop mlX10_30 rfl (oX10 ht) rfl rfl rfl (Nat.le_of_ble_eq_true rfl) ⟨Nat.le_of_ble_eq_true rfl, Nat.le_of_ble_eq_true rfl⟩ dX10_join_19 (fun s3 => ?_)
    exact rf_vret C dX10_join_22
  refine rf_lcmp_eq C 18 dX10_join_5 dX10_join_6 (by decide) (fun _ => ?_) (fun _ => ?_)
  · exact rf_sub [0] rfl (hj2 s0 trivial)
  refine rf_aload_n C dX10_join_9 rfl 2 rfl ?_
  refine rf_get C (v := .long (s0.2.1 (wId a2 0) 2)) cfX10 flX10_19 (by decide) (oX10 ha2) rfl dX10_join_10 ?_
  refine rf_lconst C (v := (0 : Int64)) dX10_join_13 rfl ?_
  refine rf_lcmp_ne C 23 dX10_join_14 dX10_join_15 (by decide) (fun _ => ?_) (fun _ => ?_)
  · refine rf_aload_n C dX10_join_23 rfl 1 rfl ?_
    refine rf_get C (v := .ref ((gE Γ).2.1 (wId a1 1))) cfX10 flX10_9 (by decide) (oX10 ha1) rfl dX10_join_24 ?_
    refine rf_iconst C (v := (nI 0)) dX10_join_27 rfl ?_
    refine rf_lald C (arW1 ha1) dX10_join_28 (fun u4 => ?_)
    refine rf_lconst C (v := (0 : Int64)) dX10_join_29 rfl ?_
    refine rf_jn2 (fun _ _ => True) (fun _ s6 => s6) (fun v5 s6 => [(0, .ref ((gE Γ).2.1 (wId t 0))), (1, .ref ((gE Γ).2.1 (wId a1 0))), (2, .ref ((gE Γ).2.1 (wId a2 0)))]) (fun v5 s6 => [.int v5]) 39 (fun v5 s6 _ => ?_) (fun j7 hj7 => ?_)
    · refine rf_istore_n C (fun v8 => [(3, .int v8), (0, .ref ((gE Γ).2.1 (wId t 0))), (1, .ref ((gE Γ).2.1 (wId a1 0))), (2, .ref ((gE Γ).2.1 (wId a2 0)))]) dX10_join_39 rfl (by decide) (fun _ => rfl) (fun v8 => ?_)
      refine rf_aload_n C dX10_join_40 rfl 1 rfl ?_
      refine rf_get C (v := .ref ((gE Γ).2.1 (wId t 1))) cfX10 flX10_9 (by decide) (oX10 ht) rfl dX10_join_41 ?_
      refine rf_iconst C (v := (nI 0)) dX10_join_44 rfl ?_
      refine rf_aload_n C dX10_join_45 rfl 2 rfl ?_
      refine rf_get C (v := .ref ((gE Γ).2.1 (wId a1 1))) cfX10 flX10_9 (by decide) (oX10 ha1) rfl dX10_join_46 ?_
      refine rf_iconst C (v := (nI 0)) dX10_join_49 rfl ?_
      refine rf_lald C (arW1 ha1) dX10_join_50 (fun u9 => ?_)
      refine rf_aload_n C dX10_join_51 rfl 3 rfl ?_
      refine rf_get C (v := .ref ((gE Γ).2.1 (wId a2 1))) cfX10 flX10_9 (by decide) (oX10 ha2) rfl dX10_join_52 ?_
      refine rf_iconst C (v := (nI 0)) dX10_join_55 rfl ?_
      refine rf_lald C (arW1 ha2) dX10_join_56 (fun u10 => ?_)
      refine rf_land C dX10_join_57 ?_
      refine rf_last C (arW1 ht) dX10_join_58 (fun s11 => ?_)
      refine rf_iconst C (v := (nI 1)) dX10_join_59 rfl ?_
      refine rf_istore C (fun v12 => [(4, .int v12), (3, .int v8), (0, .ref ((gE Γ).2.1 (wId t 0))), (1, .ref ((gE Γ).2.1 (wId a1 0))), (2, .ref ((gE Γ).2.1 (wId a2 0)))]) dX10_join_60 (by decide) (fun _ => rfl) (fun v12 => ?_)
      refine rf_sub [2, 3, 4, 1, 0] rfl ?_
      refine rf_loo2 (fun _ _ => True) (fun _ s14 => s14) (fun v13 s14 => [(0, .ref ((gE Γ).2.1 (wId t 0))), (1, .ref ((gE Γ).2.1 (wId a1 0))), (2, .ref ((gE Γ).2.1 (wId a2 0))), (3, .int v8), (4, .int v13)]) (fun recrec15 hrec15 v13 s14 _ => ?_) n v12 s11 trivial
      refine rf_iload C dX10_join_62 4 rfl ?_
      refine rf_bipush C (v := (nI 6)) dX10_join_64 rfl ?_
      refine rf_icmp_ge C 109 dX10_join_66 (by decide) (fun _ => ?_) (fun _ => ?_)
      · refine rf_aload_n C dX10_join_109 rfl 0 rfl ?_
        refine rf_aload_n C dX10_join_110 rfl 1 rfl ?_
        refine rf_get C (v := .long (s14.2.1 (wId a1 0) 1)) cfX10 flX10_15 (by decide) (oX10 ha1) rfl dX10_join_111 ?_
        refine rf_aload_n C dX10_join_114 rfl 2 rfl ?_
        refine rf_callSl C (rmc := rmOf 0 0) [.long (s14.2.1 (wId a1 0) 1), .ref ((gE Γ).2.1 (wId a2 0))] (by decide) (mX10_joinPairs (gL Γ) n (s14.2.1 (wId a1 0) 1) a2 s14 ha2) mfX10_joinPairs msX10_joinPairs mlX10_33 rfl rfl rfl (Nat.le_of_ble_eq_true rfl) ⟨Nat.le_of_ble_eq_true rfl, Nat.le_of_ble_eq_true rfl⟩ dX10_join_115 (fun r17 s16 => ?_)
        refine rf_putl C cfX10 flX10_15 (by decide) rfl (oX10 ht) (fty := .long) rfl rfl rfl (fun _ _ _ _ => Nat.le_of_ble_eq_true rfl) (fun _ _ _ _ => rfl) dX10_join_118 (fun s18 => ?_)
        refine rf_aload_n C dX10_join_121 rfl 0 rfl ?_
        refine rf_aload_n C dX10_join_122 rfl 1 rfl ?_
        refine rf_get C (v := .long (s18.2.1 (wId a1 0) 2)) cfX10 flX10_19 (by decide) (oX10 ha1) rfl dX10_join_123 ?_
        refine rf_ldc2 C dX10_join_126 klX10_37 ?_
        refine rf_land C dX10_join_129 ?_
        refine rf_iload_n C dX10_join_130 rfl 3 rfl ?_
        refine rf_jn2 (fun _ _ => True) (fun _ s20 => s20) (fun u19 s20 => []) (fun u19 s20 => [.long u19, .long ((s18.2.1 (wId a1 0) 2) &&& (-2 : Int64)), .ref ((gE Γ).2.1 (wId t 0))]) 142 (fun u19 s20 _ => ?_) (fun j21 hj21 => ?_)
        · refine rf_lor C dX10_join_142 ?_
          refine rf_putl C cfX10 flX10_19 (by decide) rfl (oX10 ht) (fty := .long) rfl rfl rfl (fun _ _ _ _ => Nat.le_of_ble_eq_true rfl) (fun _ _ _ _ => rfl) dX10_join_143 (fun s22 => ?_)
          exact rf_vret C dX10_join_146
        refine rf_if_eq C 141 dX10_join_131 (by decide) (fun _ => ?_) (fun _ => ?_)
        · refine rf_lconst C (v := (0 : Int64)) dX10_join_141 rfl ?_
          exact rf_sub [] rfl (hj21 (0 : Int64) s18 trivial)
        refine rf_aload_n C dX10_join_134 rfl 2 rfl ?_
        refine rf_get C (v := .long (s18.2.1 (wId a2 0) 2)) cfX10 flX10_19 (by decide) (oX10 ha2) rfl dX10_join_135 ?_
        refine rf_goto C 142 dX10_join_138 (by decide) ?_
        exact rf_sub [] rfl (hj21 (s18.2.1 (wId a2 0) 2) s18 trivial)
      refine rf_aload_n C dX10_join_69 rfl 0 rfl ?_
      refine rf_get C (v := .ref ((gE Γ).2.1 (wId t 1))) cfX10 flX10_9 (by decide) (oX10 ht) rfl dX10_join_70 ?_
      refine rf_iload C dX10_join_73 4 rfl ?_
      refine rf_aload_n C dX10_join_75 rfl 1 rfl ?_
      refine rf_get C (v := .ref ((gE Γ).2.1 (wId a1 1))) cfX10 flX10_9 (by decide) (oX10 ha1) rfl dX10_join_76 ?_
      refine rf_iload C dX10_join_79 4 rfl ?_
      refine rf_lald C (arW1 ha1) dX10_join_81 (fun u23 => ?_)
      refine rf_aload_n C dX10_join_82 rfl 2 rfl ?_
      refine rf_callSl C (rmc := rmOf 0 0) [.long u23, .ref ((gE Γ).2.1 (wId a2 0))] (by decide) (mX10_joinPairs (gL Γ) n u23 a2 s14 ha2) mfX10_joinPairs msX10_joinPairs mlX10_33 rfl rfl rfl (Nat.le_of_ble_eq_true rfl) ⟨Nat.le_of_ble_eq_true rfl, Nat.le_of_ble_eq_true rfl⟩ dX10_join_83 (fun r25 s24 => ?_)
      refine rf_iload_n C dX10_join_86 rfl 3 rfl ?_
      refine rf_jn2 (fun _ _ => True) (fun _ s27 => s27) (fun u26 s27 => [(0, .ref ((gE Γ).2.1 (wId t 0))), (1, .ref ((gE Γ).2.1 (wId a1 0))), (2, .ref ((gE Γ).2.1 (wId a2 0))), (3, .int v8), (4, .int v13)]) (fun u26 s27 => [.long u26, .long r25, .int v13, .ref ((gE Γ).2.1 (wId t 1))]) 101 (fun u26 s27 _ => ?_) (fun j28 hj28 => ?_)
      · refine rf_lor C dX10_join_101 ?_
        refine rf_last C (arW1 ht) dX10_join_102 (fun s29 => ?_)
        refine rf_iinc C (fun v30 => [(4, .int v30), (0, .ref ((gE Γ).2.1 (wId t 0))), (1, .ref ((gE Γ).2.1 (wId a1 0))), (2, .ref ((gE Γ).2.1 (wId a2 0))), (3, .int v8)]) dX10_join_103 4 rfl rfl (by decide) (fun _ => rfl) (fun v30 => ?_)
        refine rf_goto C 62 dX10_join_106 (by decide) ?_
        exact rf_sub [1, 2, 3, 4, 0] rfl (hrec15 v30 s29 trivial)
      refine rf_if_eq C 100 dX10_join_87 (by decide) (fun _ => ?_) (fun _ => ?_)
      · refine rf_lconst C (v := (0 : Int64)) dX10_join_100 rfl ?_
        exact rf_sub [0, 1, 2, 3, 4] rfl (hj28 (0 : Int64) s24 trivial)
      refine rf_aload_n C dX10_join_90 rfl 2 rfl ?_
      refine rf_get C (v := .ref ((gE Γ).2.1 (wId a2 1))) cfX10 flX10_9 (by decide) (oX10 ha2) rfl dX10_join_91 ?_
      refine rf_iload C dX10_join_94 4 rfl ?_
      refine rf_lald C (arW1 ha2) dX10_join_96 (fun u31 => ?_)
      refine rf_goto C 101 dX10_join_97 (by decide) ?_
      exact rf_sub [0, 1, 2, 3, 4] rfl (hj28 u31 s24 trivial)
    refine rf_lcmp_eq C 38 dX10_join_30 dX10_join_31 (by decide) (fun _ => ?_) (fun _ => ?_)
    · refine rf_iconst C (v := (nI 0)) dX10_join_38 rfl ?_
      exact rf_sub [0, 1, 2] rfl (hj7 (nI 0) s0 trivial)
    refine rf_iconst C (v := (nI 1)) dX10_join_34 rfl ?_
    refine rf_goto C 39 dX10_join_35 (by decide) ?_
    exact rf_sub [0, 1, 2] rfl (hj7 (nI 1) s0 trivial)
  exact rf_sub [0] rfl (hj2 s0 trivial)

def fX3_putBefore (n : Nat) (a1 : Nat) (a2 : Int32) (a3 : Nat) (s0 : PH) : Option (Nat × PH) :=
(bd (fX4_length a1 a2 s0) fun (r2 : Int32) (s1 : PH) =>
(lt (r2 - (nI 1)) fun (v3 : Int32) =>
(loo3 (fun (recrec7 : Nat → Int32 → PH → Option (Nat × PH)) (w4 : Nat) (v5 : Int32) (s6 : PH) =>
(if v5 < 0 then
(some (w4, s6))
else
(ra 2 (v5 &&& (nI 1)) (fun j => 34 + j) fun (w8 : Nat) =>
(bd (fX4_symbolAt a1 a2 v5 s6) fun (r10 : Int32) (s9 : PH) =>
(bd (fX3_wordsOf r10 s9) fun (w12 : Nat) (s11 : PH) =>
(bd (fX10_join n w8 w12 w4 s11) fun _ (s13 : PH) =>
(lt (v5 + (-1 : Int32)) fun (v14 : Int32) =>
(recrec7 w8 v14 s13)))))))) n a3 v3 s1)))
set_option maxRecDepth 20000 in
set_option maxHeartbeats 2000000 in
theorem mX3_putBefore (l : Launch) (n : Nat) (a1 : Nat) (a2 : Int32) (a3 : Nat) (s0 : PH) (ha1 : a1 < 6) (ha3 : a3 < 36) : Ctw 148 l yX3_putBefore cX3_putBefore 7 (some (.object "LookaheadDepths$WordSet")) (rmOf 3 68) (fun E => [.ref (E.2.1 13), .ref (E.2.1 (gId a1 0)), .int a2, .ref (E.2.1 (wId a3 0))]) s0 (fX3_putBefore n a1 a2 a3 s0) := by
  refine Ctw.of (by decide) rfl (lv := fun E => [(0, .ref (E.2.1 13)), (1, .ref (E.2.1 (gId a1 0))), (2, .int a2), (3, .ref (E.2.1 (wId a3 0)))]) (fun _ => Nat.le_of_ble_eq_true rfl) (fun _ => rfl) (fun Γ hΓ _ C => ?_)
  subst hΓ
  unfold fX3_putBefore
  refine rf_aload_n C dX3_putBefore_0 rfl 3 rfl ?_
  refine rf_astore C [(4, .ref ((gE Γ).2.1 (wId a3 0))), (0, .ref ((gE Γ).2.1 13)), (1, .ref ((gE Γ).2.1 (gId a1 0))), (2, .int a2), (3, .ref ((gE Γ).2.1 (wId a3 0)))] dX3_putBefore_1 (by decide) rfl ?_
  refine rf_aload_n C dX3_putBefore_3 rfl 2 rfl ?_
  refine rf_iload_n C dX3_putBefore_4 rfl 3 rfl ?_
  refine rf_callVi C (rmc := rmOf 0 0) [.int a2] (by decide) (mX4_length (gL Γ) a1 a2 s0 ha1) mfX4_length mvX4_length mlX3_100 rfl (oX4 ha1) rfl rfl rfl (Nat.le_of_ble_eq_true rfl) ⟨Nat.le_of_ble_eq_true rfl, Nat.le_of_ble_eq_true rfl⟩ dX3_putBefore_5 (fun r2 s1 => ?_)
  refine rf_iconst C (v := (nI 1)) dX3_putBefore_8 rfl ?_
  refine rf_isub C dX3_putBefore_9 ?_
  refine rf_istore C (fun v3 => [(5, .int v3), (4, .ref ((gE Γ).2.1 (wId a3 0))), (0, .ref ((gE Γ).2.1 13)), (1, .ref ((gE Γ).2.1 (gId a1 0))), (2, .int a2), (3, .ref ((gE Γ).2.1 (wId a3 0)))]) dX3_putBefore_10 (by decide) (fun _ => rfl) (fun v3 => ?_)
  refine rf_sub [2, 3, 4, 1, 0] rfl ?_
  refine rf_loo3 (fun w4 v5 s6 => w4 < 36) (fun _ _ s6 => s6) (fun w4 v5 s6 => [(0, .ref ((gE Γ).2.1 13)), (1, .ref ((gE Γ).2.1 (gId a1 0))), (2, .int a2), (4, .ref ((gE Γ).2.1 (wId w4 0))), (5, .int v5)]) (fun recrec7 hrec7 w4 v5 s6 hw4 => ?_) n a3 v3 s1 ha3
  refine rf_iload C dX3_putBefore_12 4 rfl ?_
  refine rf_if_lt C 56 dX3_putBefore_14 (by decide) (fun _ => ?_) (fun _ => ?_)
  · refine rf_aload C dX3_putBefore_56 3 rfl ?_
    exact rf_wret C hw4 dX3_putBefore_58
  refine rf_aload_n C dX3_putBefore_17 rfl 0 rfl ?_
  refine rf_get C (v := .ref ((gE Γ).2.1 18)) cfX3 flX3_35 (by decide) oX3 rfl dX3_putBefore_18 ?_
  refine rf_iload C dX3_putBefore_21 4 rfl ?_
  refine rf_iconst C (v := (nI 1)) dX3_putBefore_23 rfl ?_
  refine rf_iand C dX3_putBefore_24 ?_
  refine rf_aldW C ar18 dX3_putBefore_25 (fun w8 hw8 => ?_)
  refine rf_astore C [(6, .ref ((gE Γ).2.1 (wId w8 0))), (0, .ref ((gE Γ).2.1 13)), (1, .ref ((gE Γ).2.1 (gId a1 0))), (2, .int a2), (4, .ref ((gE Γ).2.1 (wId w4 0))), (5, .int v5)] dX3_putBefore_26 (by decide) rfl ?_
  refine rf_aload C dX3_putBefore_28 0 rfl ?_
  refine rf_aload_n C dX3_putBefore_30 rfl 1 rfl ?_
  refine rf_aload_n C dX3_putBefore_31 rfl 2 rfl ?_
  refine rf_iload_n C dX3_putBefore_32 rfl 3 rfl ?_
  refine rf_iload C dX3_putBefore_33 5 rfl ?_
  refine rf_callVi C (rmc := rmOf 0 0) [.int a2, .int v5] (by decide) (mX4_symbolAt (gL Γ) a1 a2 v5 s6 ha1) mfX4_symbolAt mvX4_symbolAt mlX3_103 rfl (oX4 ha1) rfl rfl rfl (Nat.le_of_ble_eq_true rfl) ⟨Nat.le_of_ble_eq_true rfl, Nat.le_of_ble_eq_true rfl⟩ dX3_putBefore_35 (fun r10 s9 => ?_)
  refine rf_callVw C (rmc := rmOf 1 20) [.int r10] (by decide) (mX3_wordsOf (gL Γ) r10 s9) mfX3_wordsOf mvX3_wordsOf mlX3_110 rfl oX3 rfl rfl rfl (Nat.le_of_ble_eq_true rfl) ⟨Nat.le_of_ble_eq_true rfl, Nat.le_of_ble_eq_true rfl⟩ dX3_putBefore_38 (fun w12 s11 hw12 => ?_)
  refine rf_aload C dX3_putBefore_41 4 rfl ?_
  refine rf_callVv C (rmc := rmOf 2 44) [.ref ((gE Γ).2.1 (wId w12 0)), .ref ((gE Γ).2.1 (wId w4 0))] (by decide) (mX10_join (gL Γ) n w8 w12 w4 s11 (Nat.lt_of_lt_of_le hw8 (by decide)) hw12 hw4) mfX10_join mvX10_join mlX3_114 rfl (oX10 (Nat.lt_of_lt_of_le hw8 (by decide))) rfl rfl rfl (Nat.le_of_ble_eq_true rfl) ⟨Nat.le_of_ble_eq_true rfl, Nat.le_of_ble_eq_true rfl⟩ dX3_putBefore_43 (fun s13 => ?_)
  refine rf_aload C dX3_putBefore_46 0 rfl ?_
  refine rf_astore C [(4, .ref ((gE Γ).2.1 (wId w8 0))), (6, .ref ((gE Γ).2.1 (wId w8 0))), (0, .ref ((gE Γ).2.1 13)), (1, .ref ((gE Γ).2.1 (gId a1 0))), (2, .int a2), (5, .int v5)] dX3_putBefore_48 (by decide) rfl ?_
  refine rf_iinc C (fun v14 => [(5, .int v14), (4, .ref ((gE Γ).2.1 (wId w8 0))), (6, .ref ((gE Γ).2.1 (wId w8 0))), (0, .ref ((gE Γ).2.1 13)), (1, .ref ((gE Γ).2.1 (gId a1 0))), (2, .int a2)]) dX3_putBefore_50 5 rfl rfl (by decide) (fun _ => rfl) (fun v14 => ?_)
  refine rf_goto C 12 dX3_putBefore_53 (by decide) ?_
  exact rf_sub [3, 4, 5, 1, 0] rfl (hrec7 w8 v14 s13 (Nat.lt_of_lt_of_le hw8 (by decide)))

def fX10_addAll (n : Nat) (t : Nat) (a1 : Nat) (s0 : PH) : Option (Int32 × PH) :=
(lt (nI 0) fun (v1 : Int32) =>
(lt (nI 0) fun (v2 : Int32) =>
(loo3 (fun (recrec6 : Int32 → Int32 → PH → Option (Int32 × PH)) (v3 : Int32) (v4 : Int32) (s5 : PH) =>
(if (nI 6) ≤ v4 then
(lt (sl s5 (wId t 0) 1 ((s5.2.1 (wId t 0) 1) ||| (s5.2.1 (wId a1 0) 1))) fun (s7 : PH) =>
(lt (sl s7 (wId t 0) 2 ((s7.2.1 (wId t 0) 2) ||| (s7.2.1 (wId a1 0) 2))) fun (s8 : PH) =>
(rz v3 s8)))
else
(ra 6 v4 (s5.2.1 (wId a1 1)) fun (u9 : Int64) =>
(ra 6 v4 (s5.2.1 (wId t 1)) fun (u10 : Int64) =>
(jn (fun (v11 : Int32) (s12 : PH) =>
(lt (v4 + (nI 1)) fun (v14 : Int32) =>
(recrec6 v11 v14 s12))) (fun (j13 : Int32 → PH → Option (Int32 × PH)) =>
(if (u9 &&& (u10 ^^^ (-1 : Int64))) = (0 : Int64) then
(j13 v3 s5)
else
(ra 6 v4 (s5.2.1 (wId t 1)) fun (u15 : Int64) =>
(ra 6 v4 (s5.2.1 (wId a1 1)) fun (u16 : Int64) =>
(wa 6 v4 (lt (sl s5 (wId t 1) v4.toNatClampNeg (u15 ||| u16)) fun (s17 : PH) =>
(lt (nI 1) fun (v18 : Int32) =>
(j13 v18 s17))))))))))))) n v1 v2 s0)))
set_option maxRecDepth 20000 in
set_option maxHeartbeats 2000000 in
theorem mX10_addAll (l : Launch) (n : Nat) (t : Nat) (a1 : Nat) (s0 : PH) (ht : t < 36) (ha1 : a1 < 36) : Cti 148 l yX10_addAll cX10_addAll 4 (some .boolean) (rmOf 0 0) (fun E => [.ref (E.2.1 (wId t 0)), .ref (E.2.1 (wId a1 0))]) s0 (fX10_addAll n t a1 s0) := by
  refine Cti.of (by decide) rfl (lv := fun E => [(0, .ref (E.2.1 (wId t 0))), (1, .ref (E.2.1 (wId a1 0)))]) (fun _ => Nat.le_of_ble_eq_true rfl) (fun _ => rfl) (fun Γ hΓ _ C => ?_)
  subst hΓ
  unfold fX10_addAll
  refine rf_iconst C (v := (nI 0)) dX10_addAll_0 rfl ?_
  refine rf_istore_n C (fun v1 => [(2, .int v1), (0, .ref ((gE Γ).2.1 (wId t 0))), (1, .ref ((gE Γ).2.1 (wId a1 0)))]) dX10_addAll_1 rfl (by decide) (fun _ => rfl) (fun v1 => ?_)
  refine rf_iconst C (v := (nI 0)) dX10_addAll_2 rfl ?_
  refine rf_istore_n C (fun v2 => [(3, .int v2), (2, .int v1), (0, .ref ((gE Γ).2.1 (wId t 0))), (1, .ref ((gE Γ).2.1 (wId a1 0)))]) dX10_addAll_3 rfl (by decide) (fun _ => rfl) (fun v2 => ?_)
  refine rf_sub [2, 3, 1, 0] rfl ?_
  refine rf_loo3 (fun _ _ _ => True) (fun _ _ s5 => s5) (fun v3 v4 s5 => [(0, .ref ((gE Γ).2.1 (wId t 0))), (1, .ref ((gE Γ).2.1 (wId a1 0))), (2, .int v3), (3, .int v4)]) (fun recrec6 hrec6 v3 v4 s5 _ => ?_) n v1 v2 s0 trivial
  refine rf_iload_n C dX10_addAll_4 rfl 3 rfl ?_
  refine rf_bipush C (v := (nI 6)) dX10_addAll_5 rfl ?_
  refine rf_icmp_ge C 55 dX10_addAll_7 (by decide) (fun _ => ?_) (fun _ => ?_)
  · refine rf_aload_n C dX10_addAll_55 rfl 0 rfl ?_
    refine rf_dup C dX10_addAll_56 rfl ?_
    refine rf_get C (v := .long (s5.2.1 (wId t 0) 1)) cfX10 flX10_15 (by decide) (oX10 ht) rfl dX10_addAll_57 ?_
    refine rf_aload_n C dX10_addAll_60 rfl 1 rfl ?_
    refine rf_get C (v := .long (s5.2.1 (wId a1 0) 1)) cfX10 flX10_15 (by decide) (oX10 ha1) rfl dX10_addAll_61 ?_
    refine rf_lor C dX10_addAll_64 ?_
    refine rf_putl C cfX10 flX10_15 (by decide) rfl (oX10 ht) (fty := .long) rfl rfl rfl (fun _ _ _ _ => Nat.le_of_ble_eq_true rfl) (fun _ _ _ _ => rfl) dX10_addAll_65 (fun s7 => ?_)
    refine rf_aload_n C dX10_addAll_68 rfl 0 rfl ?_
    refine rf_dup C dX10_addAll_69 rfl ?_
    refine rf_get C (v := .long (s7.2.1 (wId t 0) 2)) cfX10 flX10_19 (by decide) (oX10 ht) rfl dX10_addAll_70 ?_
    refine rf_aload_n C dX10_addAll_73 rfl 1 rfl ?_
    refine rf_get C (v := .long (s7.2.1 (wId a1 0) 2)) cfX10 flX10_19 (by decide) (oX10 ha1) rfl dX10_addAll_74 ?_
    refine rf_lor C dX10_addAll_77 ?_
    refine rf_putl C cfX10 flX10_19 (by decide) rfl (oX10 ht) (fty := .long) rfl rfl rfl (fun _ _ _ _ => Nat.le_of_ble_eq_true rfl) (fun _ _ _ _ => rfl) dX10_addAll_78 (fun s8 => ?_)
    refine rf_iload_n C dX10_addAll_81 rfl 2 rfl ?_
    exact rf_zretv C dX10_addAll_82
  refine rf_aload_n C dX10_addAll_10 rfl 1 rfl ?_
  refine rf_get C (v := .ref ((gE Γ).2.1 (wId a1 1))) cfX10 flX10_9 (by decide) (oX10 ha1) rfl dX10_addAll_11 ?_
  refine rf_iload_n C dX10_addAll_14 rfl 3 rfl ?_
  refine rf_lald C (arW1 ha1) dX10_addAll_15 (fun u9 => ?_)
  refine rf_aload_n C dX10_addAll_16 rfl 0 rfl ?_
  refine rf_get C (v := .ref ((gE Γ).2.1 (wId t 1))) cfX10 flX10_9 (by decide) (oX10 ht) rfl dX10_addAll_17 ?_
  refine rf_iload_n C dX10_addAll_20 rfl 3 rfl ?_
  refine rf_lald C (arW1 ht) dX10_addAll_21 (fun u10 => ?_)
  refine rf_ldc2 C dX10_addAll_22 klX10_28 ?_
  refine rf_lxor C dX10_addAll_25 ?_
  refine rf_land C dX10_addAll_26 ?_
  refine rf_lconst C (v := (0 : Int64)) dX10_addAll_27 rfl ?_
  refine rf_jn2 (fun _ _ => True) (fun _ s12 => s12) (fun v11 s12 => [(0, .ref ((gE Γ).2.1 (wId t 0))), (1, .ref ((gE Γ).2.1 (wId a1 0))), (2, .int v11), (3, .int v4)]) (fun v11 s12 => []) 49 (fun v11 s12 _ => ?_) (fun j13 hj13 => ?_)
  · refine rf_iinc C (fun v14 => [(3, .int v14), (0, .ref ((gE Γ).2.1 (wId t 0))), (1, .ref ((gE Γ).2.1 (wId a1 0))), (2, .int v11)]) dX10_addAll_49 3 rfl rfl (by decide) (fun _ => rfl) (fun v14 => ?_)
    refine rf_goto C 4 dX10_addAll_52 (by decide) ?_
    exact rf_sub [1, 2, 3, 0] rfl (hrec6 v11 v14 s12 trivial)
  refine rf_lcmp_eq C 49 dX10_addAll_28 dX10_addAll_29 (by decide) (fun _ => ?_) (fun _ => ?_)
  · exact rf_sub [0, 1, 2, 3] rfl (hj13 v3 s5 trivial)
  refine rf_aload_n C dX10_addAll_32 rfl 0 rfl ?_
  refine rf_get C (v := .ref ((gE Γ).2.1 (wId t 1))) cfX10 flX10_9 (by decide) (oX10 ht) rfl dX10_addAll_33 ?_
  refine rf_iload_n C dX10_addAll_36 rfl 3 rfl ?_
  refine rf_dup2 C dX10_addAll_37 rfl rfl ?_
  refine rf_lald C (arW1 ht) dX10_addAll_38 (fun u15 => ?_)
  refine rf_aload_n C dX10_addAll_39 rfl 1 rfl ?_
  refine rf_get C (v := .ref ((gE Γ).2.1 (wId a1 1))) cfX10 flX10_9 (by decide) (oX10 ha1) rfl dX10_addAll_40 ?_
  refine rf_iload_n C dX10_addAll_43 rfl 3 rfl ?_
  refine rf_lald C (arW1 ha1) dX10_addAll_44 (fun u16 => ?_)
  refine rf_lor C dX10_addAll_45 ?_
  refine rf_last C (arW1 ht) dX10_addAll_46 (fun s17 => ?_)
  refine rf_iconst C (v := (nI 1)) dX10_addAll_47 rfl ?_
  refine rf_istore_n C (fun v18 => [(2, .int v18), (0, .ref ((gE Γ).2.1 (wId t 0))), (1, .ref ((gE Γ).2.1 (wId a1 0))), (3, .int v4)]) dX10_addAll_48 rfl (by decide) (fun _ => rfl) (fun v18 => ?_)
  exact rf_sub [1, 2, 0, 3] rfl (hj13 v18 s17 trivial)

def fX3_findFirsts (n : Nat) (a1 : Nat) (s0 : PH) : Option (Unit × PH) :=
(lt (nI 0) fun (v1 : Int32) =>
(loo2 (fun (recrec4 : Int32 → PH → Option (Unit × PH)) (v2 : Int32) (s3 : PH) =>
(if (nI 6) ≤ v2 then
(lt (nI 1) fun (v5 : Int32) =>
(lt (nI 0) fun (v6 : Int32) =>
(loo3 (fun (recrec10 : Int32 → Int32 → PH → Option (Unit × PH)) (v7 : Int32) (v8 : Int32) (s9 : PH) =>
(if (nI 1000) ≤ v8 then
(some ((), s9))
else
(if v7 = 0 then
(some ((), s9))
else
(lt (nI 0) fun (v11 : Int32) =>
(lt (nI 0) fun (v12 : Int32) =>
(loo3 (fun (recrec16 : Int32 → Int32 → PH → Option (Unit × PH)) (v13 : Int32) (v14 : Int32) (s15 : PH) =>
(bd (fX4_count a1 s15) fun (r18 : Int32) (s17 : PH) =>
(if r18 ≤ v14 then
(lt (v8 + (nI 1)) fun (v19 : Int32) =>
(recrec10 v13 v19 s17))
else
(bd (fX4_left a1 v14 s17) fun (r21 : Int32) (s20 : PH) =>
(ra 6 r21 (fun j => 6 + j) fun (w22 : Nat) =>
(bd (fX3_putBefore n a1 v14 0 s20) fun (w24 : Nat) (s23 : PH) =>
(bd (fX10_addAll n w22 w24 s23) fun (r26 : Int32) (s25 : PH) =>
(jn (fun (v27 : Int32) (s28 : PH) =>
(lt (v14 + (nI 1)) fun (v30 : Int32) =>
(recrec16 v27 v30 s28))) (fun (j29 : Int32 → PH → Option (Unit × PH)) =>
(if r26 = 0 then
(j29 v13 s25)
else
(lt (nI 1) fun (v31 : Int32) =>
(j29 v31 s25)))))))))))) n v11 v12 s9)))))) n v5 v6 s3)))
else
(ra 6 v2 (fun j => 6 + j) fun (w32 : Nat) =>
(bd (fX10_drop n w32 s3) fun _ (s33 : PH) =>
(lt (v2 + (nI 1)) fun (v34 : Int32) =>
(recrec4 v34 s33)))))) n v1 s0))
set_option maxRecDepth 20000 in
set_option maxHeartbeats 2000000 in
theorem mX3_findFirsts (l : Launch) (n : Nat) (a1 : Nat) (s0 : PH) (ha1 : a1 < 6) : Ctv 148 l yX3_findFirsts cX3_findFirsts 5 none (rmOf 4 94) (fun E => [.ref (E.2.1 13), .ref (E.2.1 (gId a1 0))]) s0 (fX3_findFirsts n a1 s0) := by
  refine Ctv.of (by decide) rfl (lv := fun E => [(0, .ref (E.2.1 13)), (1, .ref (E.2.1 (gId a1 0)))]) (fun _ => Nat.le_of_ble_eq_true rfl) (fun _ => rfl) (fun Γ hΓ _ C => ?_)
  subst hΓ
  unfold fX3_findFirsts
  refine rf_iconst C (v := (nI 0)) dX3_findFirsts_0 rfl ?_
  refine rf_istore_n C (fun v1 => [(2, .int v1), (0, .ref ((gE Γ).2.1 13)), (1, .ref ((gE Γ).2.1 (gId a1 0)))]) dX3_findFirsts_1 rfl (by decide) (fun _ => rfl) (fun v1 => ?_)
  refine rf_sub [1, 2, 0] rfl ?_
  refine rf_loo2 (fun _ _ => True) (fun _ s3 => s3) (fun v2 s3 => [(0, .ref ((gE Γ).2.1 13)), (1, .ref ((gE Γ).2.1 (gId a1 0))), (2, .int v2)]) (fun recrec4 hrec4 v2 s3 _ => ?_) n v1 s0 trivial
  refine rf_iload_n C dX3_findFirsts_2 rfl 2 rfl ?_
  refine rf_bipush C (v := (nI 6)) dX3_findFirsts_3 rfl ?_
  refine rf_icmp_ge C 23 dX3_findFirsts_5 (by decide) (fun _ => ?_) (fun _ => ?_)
  · refine rf_iconst C (v := (nI 1)) dX3_findFirsts_23 rfl ?_
    refine rf_istore_n C (fun v5 => [(2, .int v5), (0, .ref ((gE Γ).2.1 13)), (1, .ref ((gE Γ).2.1 (gId a1 0)))]) dX3_findFirsts_24 rfl (by decide) (fun _ => rfl) (fun v5 => ?_)
    refine rf_iconst C (v := (nI 0)) dX3_findFirsts_25 rfl ?_
    refine rf_istore_n C (fun v6 => [(3, .int v6), (2, .int v5), (0, .ref ((gE Γ).2.1 13)), (1, .ref ((gE Γ).2.1 (gId a1 0)))]) dX3_findFirsts_26 rfl (by decide) (fun _ => rfl) (fun v6 => ?_)
    refine rf_sub [2, 3, 1, 0] rfl ?_
    refine rf_loo3 (fun _ _ _ => True) (fun _ _ s9 => s9) (fun v7 v8 s9 => [(0, .ref ((gE Γ).2.1 13)), (1, .ref ((gE Γ).2.1 (gId a1 0))), (2, .int v7), (3, .int v8)]) (fun recrec10 hrec10 v7 v8 s9 _ => ?_) n v5 v6 s3 trivial
    refine rf_iload_n C dX3_findFirsts_27 rfl 3 rfl ?_
    refine rf_sipush C (v := (nI 1000)) dX3_findFirsts_28 rfl ?_
    refine rf_icmp_ge C 94 dX3_findFirsts_31 (by decide) (fun _ => ?_) (fun _ => ?_)
    · exact rf_vret C dX3_findFirsts_94
    refine rf_iload_n C dX3_findFirsts_34 rfl 2 rfl ?_
    refine rf_if_eq C 94 dX3_findFirsts_35 (by decide) (fun _ => ?_) (fun _ => ?_)
    · exact rf_vret C dX3_findFirsts_94
    refine rf_iconst C (v := (nI 0)) dX3_findFirsts_38 rfl ?_
    refine rf_istore_n C (fun v11 => [(2, .int v11), (0, .ref ((gE Γ).2.1 13)), (1, .ref ((gE Γ).2.1 (gId a1 0))), (3, .int v8)]) dX3_findFirsts_39 rfl (by decide) (fun _ => rfl) (fun v11 => ?_)
    refine rf_iconst C (v := (nI 0)) dX3_findFirsts_40 rfl ?_
    refine rf_istore C (fun v12 => [(4, .int v12), (2, .int v11), (0, .ref ((gE Γ).2.1 13)), (1, .ref ((gE Γ).2.1 (gId a1 0))), (3, .int v8)]) dX3_findFirsts_41 (by decide) (fun _ => rfl) (fun v12 => ?_)
    refine rf_sub [2, 3, 1, 4, 0] rfl ?_
    refine rf_loo3 (fun _ _ _ => True) (fun _ _ s15 => s15) (fun v13 v14 s15 => [(0, .ref ((gE Γ).2.1 13)), (1, .ref ((gE Γ).2.1 (gId a1 0))), (2, .int v13), (3, .int v8), (4, .int v14)]) (fun recrec16 hrec16 v13 v14 s15 _ => ?_) n v11 v12 s9 trivial
    refine rf_iload C dX3_findFirsts_43 4 rfl ?_
    refine rf_aload_n C dX3_findFirsts_45 rfl 1 rfl ?_
    refine rf_callVi C (rmc := rmOf 0 0) [] (by decide) (mX4_count (gL Γ) a1 s15 ha1) mfX4_count mvX4_count mlX3_65 rfl (oX4 ha1) rfl rfl rfl (Nat.le_of_ble_eq_true rfl) ⟨Nat.le_of_ble_eq_true rfl, Nat.le_of_ble_eq_true rfl⟩ dX3_findFirsts_46 (fun r18 s17 => ?_)
    refine rf_icmp_ge C 88 dX3_findFirsts_49 (by decide) (fun _ => ?_) (fun _ => ?_)
    · refine rf_iinc C (fun v19 => [(3, .int v19), (0, .ref ((gE Γ).2.1 13)), (1, .ref ((gE Γ).2.1 (gId a1 0))), (2, .int v13), (4, .int v14)]) dX3_findFirsts_88 3 rfl rfl (by decide) (fun _ => rfl) (fun v19 => ?_)
      refine rf_goto C 27 dX3_findFirsts_91 (by decide) ?_
      exact rf_sub [1, 2, 3, 0] rfl (hrec10 v13 v19 s17 trivial)
    refine rf_aload_n C dX3_findFirsts_52 rfl 0 rfl ?_
    refine rf_get C (v := .ref ((gE Γ).2.1 15)) cfX3 flX3_26 (by decide) oX3 rfl dX3_findFirsts_53 ?_
    refine rf_aload_n C dX3_findFirsts_56 rfl 1 rfl ?_
    refine rf_iload C dX3_findFirsts_57 4 rfl ?_
    refine rf_callVi C (rmc := rmOf 0 0) [.int v14] (by decide) (mX4_left (gL Γ) a1 v14 s17 ha1) mfX4_left mvX4_left mlX3_74 rfl (oX4 ha1) rfl rfl rfl (Nat.le_of_ble_eq_true rfl) ⟨Nat.le_of_ble_eq_true rfl, Nat.le_of_ble_eq_true rfl⟩ dX3_findFirsts_59 (fun r21 s20 => ?_)
    refine rf_aldW C ar15 dX3_findFirsts_62 (fun w22 hw22 => ?_)
    refine rf_aload_n C dX3_findFirsts_63 rfl 0 rfl ?_
    refine rf_aload_n C dX3_findFirsts_64 rfl 1 rfl ?_
    refine rf_iload C dX3_findFirsts_65 4 rfl ?_
    refine rf_aload_n C dX3_findFirsts_67 rfl 0 rfl ?_
    refine rf_get C (v := .ref ((gE Γ).2.1 (wId 0 0))) cfX3 flX3_12 (by decide) oX3 rfl dX3_findFirsts_68 ?_
    refine rf_callVw C (rmc := rmOf 3 68) [.ref ((gE Γ).2.1 (gId a1 0)), .int v14, .ref ((gE Γ).2.1 (wId 0 0))] (by decide) (mX3_putBefore (gL Γ) n a1 v14 0 s20 ha1 (by decide)) mfX3_putBefore mvX3_putBefore mlX3_78 rfl oX3 rfl rfl rfl (Nat.le_of_ble_eq_true rfl) ⟨Nat.le_of_ble_eq_true rfl, Nat.le_of_ble_eq_true rfl⟩ dX3_findFirsts_71 (fun w24 s23 hw24 => ?_)
    refine rf_callVi C (rmc := rmOf 0 0) [.ref ((gE Γ).2.1 (wId w24 0))] (by decide) (mX10_addAll (gL Γ) n w22 w24 s23 (Nat.lt_of_lt_of_le hw22 (by decide)) hw24) mfX10_addAll mvX10_addAll mlX3_82 rfl (oX10 (Nat.lt_of_lt_of_le hw22 (by decide))) rfl rfl rfl (Nat.le_of_ble_eq_true rfl) ⟨Nat.le_of_ble_eq_true rfl, Nat.le_of_ble_eq_true rfl⟩ dX3_findFirsts_74 (fun r26 s25 => ?_)
    refine rf_jn2 (fun _ _ => True) (fun _ s28 => s28) (fun v27 s28 => [(0, .ref ((gE Γ).2.1 13)), (1, .ref ((gE Γ).2.1 (gId a1 0))), (2, .int v27), (3, .int v8), (4, .int v14)]) (fun v27 s28 => []) 82 (fun v27 s28 _ => ?_) (fun j29 hj29 => ?_)
    · refine rf_iinc C (fun v30 => [(4, .int v30), (0, .ref ((gE Γ).2.1 13)), (1, .ref ((gE Γ).2.1 (gId a1 0))), (2, .int v27), (3, .int v8)]) dX3_findFirsts_82 4 rfl rfl (by decide) (fun _ => rfl) (fun v30 => ?_)
      refine rf_goto C 43 dX3_findFirsts_85 (by decide) ?_
      exact rf_sub [1, 2, 3, 4, 0] rfl (hrec16 v27 v30 s28 trivial)
    refine rf_if_eq C 82 dX3_findFirsts_77 (by decide) (fun _ => ?_) (fun _ => ?_)
    · exact rf_sub [0, 1, 2, 3, 4] rfl (hj29 v13 s25 trivial)
    refine rf_iconst C (v := (nI 1)) dX3_findFirsts_80 rfl ?_
    refine rf_istore_n C (fun v31 => [(2, .int v31), (0, .ref ((gE Γ).2.1 13)), (1, .ref ((gE Γ).2.1 (gId a1 0))), (3, .int v8), (4, .int v14)]) dX3_findFirsts_81 rfl (by decide) (fun _ => rfl) (fun v31 => ?_)
    exact rf_sub [1, 2, 0, 3, 4] rfl (hj29 v31 s25 trivial)
  refine rf_aload_n C dX3_findFirsts_8 rfl 0 rfl ?_
  refine rf_get C (v := .ref ((gE Γ).2.1 15)) cfX3 flX3_26 (by decide) oX3 rfl dX3_findFirsts_9 ?_
  refine rf_iload_n C dX3_findFirsts_12 rfl 2 rfl ?_
  refine rf_aldW C ar15 dX3_findFirsts_13 (fun w32 hw32 => ?_)
  refine rf_callVv C (rmc := rmOf 1 24) [] (by decide) (mX10_drop (gL Γ) n w32 s3 (Nat.lt_of_lt_of_le hw32 (by decide))) mfX10_drop mvX10_drop mlX3_71 rfl (oX10 (Nat.lt_of_lt_of_le hw32 (by decide))) rfl rfl rfl (Nat.le_of_ble_eq_true rfl) ⟨Nat.le_of_ble_eq_true rfl, Nat.le_of_ble_eq_true rfl⟩ dX3_findFirsts_14 (fun s33 => ?_)
  refine rf_iinc C (fun v34 => [(2, .int v34), (0, .ref ((gE Γ).2.1 13)), (1, .ref ((gE Γ).2.1 (gId a1 0)))]) dX3_findFirsts_17 2 rfl rfl (by decide) (fun _ => rfl) (fun v34 => ?_)
  refine rf_goto C 2 dX3_findFirsts_20 (by decide) ?_
  exact rf_sub [1, 2, 0] rfl (hrec4 v34 s33 trivial)

def fX10_addEmptyWord (t : Nat) (s0 : PH) : Option (Unit × PH) :=
(wa 6 (nI 0) (lt (sl s0 (wId t 1) (nI 0).toNatClampNeg (1 : Int64)) fun (s1 : PH) =>
(lt (sl s1 (wId t 0) 1 ((s1.2.1 (wId t 0) 1) ||| (1 : Int64))) fun (s2 : PH) =>
(lt (sl s2 (wId t 0) 2 ((s2.2.1 (wId t 0) 2) ||| (1 : Int64))) fun (s3 : PH) =>
(some ((), s3))))))
set_option maxRecDepth 20000 in
set_option maxHeartbeats 2000000 in
theorem mX10_addEmptyWord (l : Launch) (t : Nat) (s0 : PH) (ht : t < 36) : Ctv 148 l yX10_addEmptyWord cX10_addEmptyWord 1 none (rmOf 0 0) (fun E => [.ref (E.2.1 (wId t 0))]) s0 (fX10_addEmptyWord t s0) := by
  refine Ctv.of (by decide) rfl (lv := fun E => [(0, .ref (E.2.1 (wId t 0)))]) (fun _ => Nat.le_of_ble_eq_true rfl) (fun _ => rfl) (fun Γ hΓ _ C => ?_)
  subst hΓ
  unfold fX10_addEmptyWord
  refine rf_aload_n C dX10_addEmptyWord_0 rfl 0 rfl ?_
  refine rf_get C (v := .ref ((gE Γ).2.1 (wId t 1))) cfX10 flX10_9 (by decide) (oX10 ht) rfl dX10_addEmptyWord_1 ?_
  refine rf_iconst C (v := (nI 0)) dX10_addEmptyWord_4 rfl ?_
  refine rf_lconst C (v := (1 : Int64)) dX10_addEmptyWord_5 rfl ?_
  refine rf_last C (arW1 ht) dX10_addEmptyWord_6 (fun s1 => ?_)
  refine rf_aload_n C dX10_addEmptyWord_7 rfl 0 rfl ?_
  refine rf_dup C dX10_addEmptyWord_8 rfl ?_
  refine rf_get C (v := .long (s1.2.1 (wId t 0) 1)) cfX10 flX10_15 (by decide) (oX10 ht) rfl dX10_addEmptyWord_9 ?_
  refine rf_lconst C (v := (1 : Int64)) dX10_addEmptyWord_12 rfl ?_
  refine rf_lor C dX10_addEmptyWord_13 ?_
  refine rf_putl C cfX10 flX10_15 (by decide) rfl (oX10 ht) (fty := .long) rfl rfl rfl (fun _ _ _ _ => Nat.le_of_ble_eq_true rfl) (fun _ _ _ _ => rfl) dX10_addEmptyWord_14 (fun s2 => ?_)
  refine rf_aload_n C dX10_addEmptyWord_17 rfl 0 rfl ?_
  refine rf_dup C dX10_addEmptyWord_18 rfl ?_
  refine rf_get C (v := .long (s2.2.1 (wId t 0) 2)) cfX10 flX10_19 (by decide) (oX10 ht) rfl dX10_addEmptyWord_19 ?_
  refine rf_lconst C (v := (1 : Int64)) dX10_addEmptyWord_22 rfl ?_
  refine rf_lor C dX10_addEmptyWord_23 ?_
  refine rf_putl C cfX10 flX10_19 (by decide) rfl (oX10 ht) (fty := .long) rfl rfl rfl (fun _ _ _ _ => Nat.le_of_ble_eq_true rfl) (fun _ _ _ _ => rfl) dX10_addEmptyWord_24 (fun s3 => ?_)
  exact rf_vret C dX10_addEmptyWord_27

def fX3_growFollows (n : Nat) (a1 : Nat) (a2 : Int32) (s0 : PH) : Option (Int32 × PH) :=
(lt (nI 0) fun (v1 : Int32) =>
(bd (fX4_left a1 a2 s0) fun (r3 : Int32) (s2 : PH) =>
(ra 6 r3 (fun j => 12 + j) fun (w4 : Nat) =>
(bd (fX4_length a1 a2 s2) fun (r6 : Int32) (s5 : PH) =>
(lt (r6 - (nI 1)) fun (v7 : Int32) =>
(loo4 (fun (recrec12 : Int32 → Nat → Int32 → PH → Option (Int32 × PH)) (v8 : Int32) (w9 : Nat) (v10 : Int32) (s11 : PH) =>
(if v10 < 0 then
(rz v8 s11)
else
(bd (fX4_symbolAt a1 a2 v10 s11) fun (r14 : Int32) (s13 : PH) =>
(lt r14 fun (v15 : Int32) =>
(bd (fX11_isLetter v15 s13) fun (r17 : Int32) (s16 : PH) =>
(jn (fun (v18 : Int32) (s19 : PH) =>
(ra 2 (v10 &&& (nI 1)) (fun j => 34 + j) fun (w21 : Nat) =>
(bd (fX3_wordsOf v15 s19) fun (w23 : Nat) (s22 : PH) =>
(bd (fX10_join n w21 w23 w9 s22) fun _ (s24 : PH) =>
(lt (v10 + (-1 : Int32)) fun (v25 : Int32) =>
(recrec12 v18 w21 v25 s24)))))) (fun (j20 : Int32 → PH → Option (Int32 × PH)) =>
(if r17 = 0 then
(ra 6 (v15 - (nI 10)) (fun j => 12 + j) fun (w26 : Nat) =>
(bd (fX10_addAll n w26 w9 s16) fun (r28 : Int32) (s27 : PH) =>
(if r28 = 0 then
(j20 v8 s27)
else
(lt (nI 1) fun (v29 : Int32) =>
(j20 v29 s27)))))
else
(j20 v8 s16))))))))) n v1 w4 v7 s5))))))
set_option maxRecDepth 20000 in
set_option maxHeartbeats 2000000 in
theorem mX3_growFollows (l : Launch) (n : Nat) (a1 : Nat) (a2 : Int32) (s0 : PH) (ha1 : a1 < 6) : Cti 148 l yX3_growFollows cX3_growFollows 8 (some .boolean) (rmOf 3 68) (fun E => [.ref (E.2.1 13), .ref (E.2.1 (gId a1 0)), .int a2]) s0 (fX3_growFollows n a1 a2 s0) := by
  refine Cti.of (by decide) rfl (lv := fun E => [(0, .ref (E.2.1 13)), (1, .ref (E.2.1 (gId a1 0))), (2, .int a2)]) (fun _ => Nat.le_of_ble_eq_true rfl) (fun _ => rfl) (fun Γ hΓ _ C => ?_)
  subst hΓ
  unfold fX3_growFollows
  refine rf_iconst C (v := (nI 0)) dX3_growFollows_0 rfl ?_
  refine rf_istore_n C (fun v1 => [(3, .int v1), (0, .ref ((gE Γ).2.1 13)), (1, .ref ((gE Γ).2.1 (gId a1 0))), (2, .int a2)]) dX3_growFollows_1 rfl (by decide) (fun _ => rfl) (fun v1 => ?_)
  refine rf_aload_n C dX3_growFollows_2 rfl 1 rfl ?_
  refine rf_get C (v := .ref ((gE Γ).2.1 16)) cfX3 flX3_29 (by decide) oX3 rfl dX3_growFollows_3 ?_
  refine rf_aload_n C dX3_growFollows_6 rfl 2 rfl ?_
  refine rf_iload_n C dX3_growFollows_7 rfl 3 rfl ?_
  refine rf_callVi C (rmc := rmOf 0 0) [.int a2] (by decide) (mX4_left (gL Γ) a1 a2 s0 ha1) mfX4_left mvX4_left mlX3_74 rfl (oX4 ha1) rfl rfl rfl (Nat.le_of_ble_eq_true rfl) ⟨Nat.le_of_ble_eq_true rfl, Nat.le_of_ble_eq_true rfl⟩ dX3_growFollows_8 (fun r3 s2 => ?_)
  refine rf_aldW C ar16 dX3_growFollows_11 (fun w4 hw4 => ?_)
  refine rf_astore C [(4, .ref ((gE Γ).2.1 (wId w4 0))), (3, .int v1), (0, .ref ((gE Γ).2.1 13)), (1, .ref ((gE Γ).2.1 (gId a1 0))), (2, .int a2)] dX3_growFollows_12 (by decide) rfl ?_
  refine rf_aload_n C dX3_growFollows_14 rfl 3 rfl ?_
  refine rf_iload_n C dX3_growFollows_15 rfl 4 rfl ?_
  refine rf_callVi C (rmc := rmOf 0 0) [.int a2] (by decide) (mX4_length (gL Γ) a1 a2 s2 ha1) mfX4_length mvX4_length mlX3_100 rfl (oX4 ha1) rfl rfl rfl (Nat.le_of_ble_eq_true rfl) ⟨Nat.le_of_ble_eq_true rfl, Nat.le_of_ble_eq_true rfl⟩ dX3_growFollows_16 (fun r6 s5 => ?_)
  refine rf_iconst C (v := (nI 1)) dX3_growFollows_19 rfl ?_
  refine rf_isub C dX3_growFollows_20 ?_
  refine rf_istore C (fun v7 => [(5, .int v7), (4, .ref ((gE Γ).2.1 (wId w4 0))), (3, .int v1), (0, .ref ((gE Γ).2.1 13)), (1, .ref ((gE Γ).2.1 (gId a1 0))), (2, .int a2)]) dX3_growFollows_21 (by decide) (fun _ => rfl) (fun v7 => ?_)
  refine rf_sub [3, 4, 5, 2, 1, 0] rfl ?_
  refine rf_loo4 (fun v8 w9 v10 s11 => w9 < 36) (fun _ _ _ s11 => s11) (fun v8 w9 v10 s11 => [(0, .ref ((gE Γ).2.1 13)), (1, .ref ((gE Γ).2.1 (gId a1 0))), (2, .int a2), (3, .int v8), (4, .ref ((gE Γ).2.1 (wId w9 0))), (5, .int v10)]) (fun recrec12 hrec12 v8 w9 v10 s11 hw9 => ?_) n v1 w4 v7 s5 (Nat.lt_of_lt_of_le hw4 (by decide))
  refine rf_iload C dX3_growFollows_23 5 rfl ?_
  refine rf_if_lt C 99 dX3_growFollows_25 (by decide) (fun _ => ?_) (fun _ => ?_)
  · refine rf_iload_n C dX3_growFollows_99 rfl 3 rfl ?_
    exact rf_zretv C dX3_growFollows_100
  refine rf_aload_n C dX3_growFollows_28 rfl 1 rfl ?_
  refine rf_iload_n C dX3_growFollows_29 rfl 2 rfl ?_
  refine rf_iload C dX3_growFollows_30 5 rfl ?_
  refine rf_callVi C (rmc := rmOf 0 0) [.int a2, .int v10] (by decide) (mX4_symbolAt (gL Γ) a1 a2 v10 s11 ha1) mfX4_symbolAt mvX4_symbolAt mlX3_103 rfl (oX4 ha1) rfl rfl rfl (Nat.le_of_ble_eq_true rfl) ⟨Nat.le_of_ble_eq_true rfl, Nat.le_of_ble_eq_true rfl⟩ dX3_growFollows_32 (fun r14 s13 => ?_)
  refine rf_istore C (fun v15 => [(6, .int v15), (0, .ref ((gE Γ).2.1 13)), (1, .ref ((gE Γ).2.1 (gId a1 0))), (2, .int a2), (3, .int v8), (4, .ref ((gE Γ).2.1 (wId w9 0))), (5, .int v10)]) dX3_growFollows_35 (by decide) (fun _ => rfl) (fun v15 => ?_)
  refine rf_iload C dX3_growFollows_37 0 rfl ?_
  refine rf_callSNi C (rmc := rmOf 0 0) [.int v15] (by decide) (mX11_isLetter (gL Γ) v15 s13) mfX11_isLetter msX11_isLetter (by decide) rfl rfl rfl (Nat.le_of_ble_eq_true rfl) ⟨Nat.le_of_ble_eq_true rfl, Nat.le_of_ble_eq_true rfl⟩ dX3_growFollows_39 (fun r17 s16 => ?_)
  refine rf_jn2 (fun _ _ => True) (fun _ s19 => s19) (fun v18 s19 => [(0, .ref ((gE Γ).2.1 13)), (1, .ref ((gE Γ).2.1 (gId a1 0))), (2, .int a2), (3, .int v18), (4, .ref ((gE Γ).2.1 (wId w9 0))), (5, .int v10), (6, .int v15)]) (fun v18 s19 => []) 65 (fun v18 s19 _ => ?_) (fun j20 hj20 => ?_)
  · refine rf_aload_n C dX3_growFollows_65 rfl 0 rfl ?_
    refine rf_get C (v := .ref ((gE Γ).2.1 18)) cfX3 flX3_35 (by decide) oX3 rfl dX3_growFollows_66 ?_
    refine rf_iload C dX3_growFollows_69 5 rfl ?_
    refine rf_iconst C (v := (nI 1)) dX3_growFollows_71 rfl ?_
    refine rf_iand C dX3_growFollows_72 ?_
    refine rf_aldW C ar18 dX3_growFollows_73 (fun w21 hw21 => ?_)
    refine rf_astore C [(7, .ref ((gE Γ).2.1 (wId w21 0))), (0, .ref ((gE Γ).2.1 13)), (1, .ref ((gE Γ).2.1 (gId a1 0))), (2, .int a2), (3, .int v18), (4, .ref ((gE Γ).2.1 (wId w9 0))), (5, .int v10), (6, .int v15)] dX3_growFollows_74 (by decide) rfl ?_
    refine rf_aload C dX3_growFollows_76 0 rfl ?_
    refine rf_aload_n C dX3_growFollows_78 rfl 1 rfl ?_
    refine rf_iload C dX3_growFollows_79 7 rfl ?_
    refine rf_callVw C (rmc := rmOf 1 20) [.int v15] (by decide) (mX3_wordsOf (gL Γ) v15 s19) mfX3_wordsOf mvX3_wordsOf mlX3_110 rfl oX3 rfl rfl rfl (Nat.le_of_ble_eq_true rfl) ⟨Nat.le_of_ble_eq_true rfl, Nat.le_of_ble_eq_true rfl⟩ dX3_growFollows_81 (fun w23 s22 hw23 => ?_)
    refine rf_aload C dX3_growFollows_84 5 rfl ?_
    refine rf_callVv C (rmc := rmOf 2 44) [.ref ((gE Γ).2.1 (wId w23 0)), .ref ((gE Γ).2.1 (wId w9 0))] (by decide) (mX10_join (gL Γ) n w21 w23 w9 s22 (Nat.lt_of_lt_of_le hw21 (by decide)) hw23 hw9) mfX10_join mvX10_join mlX3_114 rfl (oX10 (Nat.lt_of_lt_of_le hw21 (by decide))) rfl rfl rfl (Nat.le_of_ble_eq_true rfl) ⟨Nat.le_of_ble_eq_true rfl, Nat.le_of_ble_eq_true rfl⟩ dX3_growFollows_86 (fun s24 => ?_)
    refine rf_aload C dX3_growFollows_89 0 rfl ?_
    refine rf_astore C [(4, .ref ((gE Γ).2.1 (wId w21 0))), (7, .ref ((gE Γ).2.1 (wId w21 0))), (0, .ref ((gE Γ).2.1 13)), (1, .ref ((gE Γ).2.1 (gId a1 0))), (2, .int a2), (3, .int v18), (5, .int v10), (6, .int v15)] dX3_growFollows_91 (by decide) rfl ?_
    refine rf_iinc C (fun v25 => [(5, .int v25), (4, .ref ((gE Γ).2.1 (wId w21 0))), (7, .ref ((gE Γ).2.1 (wId w21 0))), (0, .ref ((gE Γ).2.1 13)), (1, .ref ((gE Γ).2.1 (gId a1 0))), (2, .int a2), (3, .int v18), (6, .int v15)]) dX3_growFollows_93 6 rfl rfl (by decide) (fun _ => rfl) (fun v25 => ?_)
    refine rf_goto C 23 dX3_growFollows_96 (by decide) ?_
    exact rf_sub [3, 4, 5, 6, 1, 0] rfl (hrec12 v18 w21 v25 s24 (Nat.lt_of_lt_of_le hw21 (by decide)))
  refine rf_if_ne C 65 dX3_growFollows_42 (by decide) (fun _ => ?_) (fun _ => ?_)
  · exact rf_sub [1, 2, 3, 4, 5, 6, 0] rfl (hj20 v8 s16 trivial)
  refine rf_aload_n C dX3_growFollows_45 rfl 1 rfl ?_
  refine rf_get C (v := .ref ((gE Γ).2.1 16)) cfX3 flX3_29 (by decide) oX3 rfl dX3_growFollows_46 ?_
  refine rf_iload C dX3_growFollows_49 0 rfl ?_
  refine rf_bipush C (v := (nI 10)) dX3_growFollows_51 rfl ?_
  refine rf_isub C dX3_growFollows_53 ?_
  refine rf_aldW C ar16 dX3_growFollows_54 (fun w26 hw26 => ?_)
  refine rf_aload C dX3_growFollows_55 5 rfl ?_
  refine rf_callVi C (rmc := rmOf 0 0) [.ref ((gE Γ).2.1 (wId w9 0))] (by decide) (mX10_addAll (gL Γ) n w26 w9 s16 (Nat.lt_of_lt_of_le hw26 (by decide)) hw9) mfX10_addAll mvX10_addAll mlX3_82 rfl (oX10 (Nat.lt_of_lt_of_le hw26 (by decide))) rfl rfl rfl (Nat.le_of_ble_eq_true rfl) ⟨Nat.le_of_ble_eq_true rfl, Nat.le_of_ble_eq_true rfl⟩ dX3_growFollows_57 (fun r28 s27 => ?_)
  refine rf_if_eq C 65 dX3_growFollows_60 (by decide) (fun _ => ?_) (fun _ => ?_)
  · exact rf_sub [1, 2, 3, 4, 5, 6, 0] rfl (hj20 v8 s27 trivial)
  refine rf_iconst C (v := (nI 1)) dX3_growFollows_63 rfl ?_
  refine rf_istore_n C (fun v29 => [(3, .int v29), (6, .int v15), (0, .ref ((gE Γ).2.1 13)), (1, .ref ((gE Γ).2.1 (gId a1 0))), (2, .int a2), (4, .ref ((gE Γ).2.1 (wId w9 0))), (5, .int v10)]) dX3_growFollows_64 rfl (by decide) (fun _ => rfl) (fun v29 => ?_)
  exact rf_sub [2, 3, 4, 0, 5, 6, 1] rfl (hj20 v29 s27 trivial)

def fX3_findFollows (n : Nat) (a1 : Nat) (s0 : PH) : Option (Unit × PH) :=
(lt (nI 0) fun (v1 : Int32) =>
(loo2 (fun (recrec4 : Int32 → PH → Option (Unit × PH)) (v2 : Int32) (s3 : PH) =>
(if (nI 6) ≤ v2 then
(bd (fX4_start a1 s3) fun (r6 : Int32) (s5 : PH) =>
(ra 6 r6 (fun j => 12 + j) fun (w7 : Nat) =>
(bd (fX10_addEmptyWord w7 s5) fun _ (s8 : PH) =>
(lt (nI 1) fun (v9 : Int32) =>
(lt (nI 0) fun (v10 : Int32) =>
(loo3 (fun (recrec14 : Int32 → Int32 → PH → Option (Unit × PH)) (v11 : Int32) (v12 : Int32) (s13 : PH) =>
(if (nI 1000) ≤ v12 then
(some ((), s13))
else
(if v11 = 0 then
(some ((), s13))
else
(lt (nI 0) fun (v15 : Int32) =>
(lt (nI 0) fun (v16 : Int32) =>
(loo3 (fun (recrec20 : Int32 → Int32 → PH → Option (Unit × PH)) (v17 : Int32) (v18 : Int32) (s19 : PH) =>
(bd (fX4_count a1 s19) fun (r22 : Int32) (s21 : PH) =>
(if r22 ≤ v18 then
(lt (v12 + (nI 1)) fun (v23 : Int32) =>
(recrec14 v17 v23 s21))
else
(bd (fX3_growFollows n a1 v18 s21) fun (r25 : Int32) (s24 : PH) =>
(jn (fun (v26 : Int32) (s27 : PH) =>
(lt (v18 + (nI 1)) fun (v29 : Int32) =>
(recrec20 v26 v29 s27))) (fun (j28 : Int32 → PH → Option (Unit × PH)) =>
(if r25 = 0 then
(j28 v17 s24)
else
(lt (nI 1) fun (v30 : Int32) =>
(j28 v30 s24))))))))) n v15 v16 s13)))))) n v9 v10 s8))))))
else
(ra 6 v2 (fun j => 12 + j) fun (w31 : Nat) =>
(bd (fX10_drop n w31 s3) fun _ (s32 : PH) =>
(lt (v2 + (nI 1)) fun (v33 : Int32) =>
(recrec4 v33 s32)))))) n v1 s0))
set_option maxRecDepth 20000 in
set_option maxHeartbeats 2000000 in
theorem mX3_findFollows (l : Launch) (n : Nat) (a1 : Nat) (s0 : PH) (ha1 : a1 < 6) : Ctv 148 l yX3_findFollows cX3_findFollows 5 none (rmOf 4 95) (fun E => [.ref (E.2.1 13), .ref (E.2.1 (gId a1 0))]) s0 (fX3_findFollows n a1 s0) := by
  refine Ctv.of (by decide) rfl (lv := fun E => [(0, .ref (E.2.1 13)), (1, .ref (E.2.1 (gId a1 0)))]) (fun _ => Nat.le_of_ble_eq_true rfl) (fun _ => rfl) (fun Γ hΓ _ C => ?_)
  subst hΓ
  unfold fX3_findFollows
  refine rf_iconst C (v := (nI 0)) dX3_findFollows_0 rfl ?_
  refine rf_istore_n C (fun v1 => [(2, .int v1), (0, .ref ((gE Γ).2.1 13)), (1, .ref ((gE Γ).2.1 (gId a1 0)))]) dX3_findFollows_1 rfl (by decide) (fun _ => rfl) (fun v1 => ?_)
  refine rf_sub [1, 2, 0] rfl ?_
  refine rf_loo2 (fun _ _ => True) (fun _ s3 => s3) (fun v2 s3 => [(0, .ref ((gE Γ).2.1 13)), (1, .ref ((gE Γ).2.1 (gId a1 0))), (2, .int v2)]) (fun recrec4 hrec4 v2 s3 _ => ?_) n v1 s0 trivial
  refine rf_iload_n C dX3_findFollows_2 rfl 2 rfl ?_
  refine rf_bipush C (v := (nI 6)) dX3_findFollows_3 rfl ?_
  refine rf_icmp_ge C 23 dX3_findFollows_5 (by decide) (fun _ => ?_) (fun _ => ?_)
  · refine rf_aload_n C dX3_findFollows_23 rfl 0 rfl ?_
    refine rf_get C (v := .ref ((gE Γ).2.1 16)) cfX3 flX3_29 (by decide) oX3 rfl dX3_findFollows_24 ?_
    refine rf_aload_n C dX3_findFollows_27 rfl 1 rfl ?_
    refine rf_callVi C (rmc := rmOf 0 0) [] (by decide) (mX4_start (gL Γ) a1 s3 ha1) mfX4_start mvX4_start mlX3_93 rfl (oX4 ha1) rfl rfl rfl (Nat.le_of_ble_eq_true rfl) ⟨Nat.le_of_ble_eq_true rfl, Nat.le_of_ble_eq_true rfl⟩ dX3_findFollows_28 (fun r6 s5 => ?_)
    refine rf_aldW C ar16 dX3_findFollows_31 (fun w7 hw7 => ?_)
    refine rf_callVv C (rmc := rmOf 0 0) [] (by decide) (mX10_addEmptyWord (gL Γ) w7 s5 (Nat.lt_of_lt_of_le hw7 (by decide))) mfX10_addEmptyWord mvX10_addEmptyWord mlX3_45 rfl (oX10 (Nat.lt_of_lt_of_le hw7 (by decide))) rfl rfl rfl (Nat.le_of_ble_eq_true rfl) ⟨Nat.le_of_ble_eq_true rfl, Nat.le_of_ble_eq_true rfl⟩ dX3_findFollows_32 (fun s8 => ?_)
    refine rf_iconst C (v := (nI 1)) dX3_findFollows_35 rfl ?_
    refine rf_istore_n C (fun v9 => [(2, .int v9), (0, .ref ((gE Γ).2.1 13)), (1, .ref ((gE Γ).2.1 (gId a1 0)))]) dX3_findFollows_36 rfl (by decide) (fun _ => rfl) (fun v9 => ?_)
    refine rf_iconst C (v := (nI 0)) dX3_findFollows_37 rfl ?_
    refine rf_istore_n C (fun v10 => [(3, .int v10), (2, .int v9), (0, .ref ((gE Γ).2.1 13)), (1, .ref ((gE Γ).2.1 (gId a1 0)))]) dX3_findFollows_38 rfl (by decide) (fun _ => rfl) (fun v10 => ?_)
    refine rf_sub [2, 3, 1, 0] rfl ?_
    refine rf_loo3 (fun _ _ _ => True) (fun _ _ s13 => s13) (fun v11 v12 s13 => [(0, .ref ((gE Γ).2.1 13)), (1, .ref ((gE Γ).2.1 (gId a1 0))), (2, .int v11), (3, .int v12)]) (fun recrec14 hrec14 v11 v12 s13 _ => ?_) n v9 v10 s8 trivial
    refine rf_iload_n C dX3_findFollows_39 rfl 3 rfl ?_
    refine rf_sipush C (v := (nI 1000)) dX3_findFollows_40 rfl ?_
    refine rf_icmp_ge C 88 dX3_findFollows_43 (by decide) (fun _ => ?_) (fun _ => ?_)
    · exact rf_vret C dX3_findFollows_88
    refine rf_iload_n C dX3_findFollows_46 rfl 2 rfl ?_
    refine rf_if_eq C 88 dX3_findFollows_47 (by decide) (fun _ => ?_) (fun _ => ?_)
    · exact rf_vret C dX3_findFollows_88
    refine rf_iconst C (v := (nI 0)) dX3_findFollows_50 rfl ?_
    refine rf_istore_n C (fun v15 => [(2, .int v15), (0, .ref ((gE Γ).2.1 13)), (1, .ref ((gE Γ).2.1 (gId a1 0))), (3, .int v12)]) dX3_findFollows_51 rfl (by decide) (fun _ => rfl) (fun v15 => ?_)
    refine rf_iconst C (v := (nI 0)) dX3_findFollows_52 rfl ?_
    refine rf_istore C (fun v16 => [(4, .int v16), (2, .int v15), (0, .ref ((gE Γ).2.1 13)), (1, .ref ((gE Γ).2.1 (gId a1 0))), (3, .int v12)]) dX3_findFollows_53 (by decide) (fun _ => rfl) (fun v16 => ?_)
    refine rf_sub [2, 3, 1, 4, 0] rfl ?_
    refine rf_loo3 (fun _ _ _ => True) (fun _ _ s19 => s19) (fun v17 v18 s19 => [(0, .ref ((gE Γ).2.1 13)), (1, .ref ((gE Γ).2.1 (gId a1 0))), (2, .int v17), (3, .int v12), (4, .int v18)]) (fun recrec20 hrec20 v17 v18 s19 _ => ?_) n v15 v16 s13 trivial
    refine rf_iload C dX3_findFollows_55 4 rfl ?_
    refine rf_aload_n C dX3_findFollows_57 rfl 1 rfl ?_
    refine rf_callVi C (rmc := rmOf 0 0) [] (by decide) (mX4_count (gL Γ) a1 s19 ha1) mfX4_count mvX4_count mlX3_65 rfl (oX4 ha1) rfl rfl rfl (Nat.le_of_ble_eq_true rfl) ⟨Nat.le_of_ble_eq_true rfl, Nat.le_of_ble_eq_true rfl⟩ dX3_findFollows_58 (fun r22 s21 => ?_)
    refine rf_icmp_ge C 82 dX3_findFollows_61 (by decide) (fun _ => ?_) (fun _ => ?_)
    · refine rf_iinc C (fun v23 => [(3, .int v23), (0, .ref ((gE Γ).2.1 13)), (1, .ref ((gE Γ).2.1 (gId a1 0))), (2, .int v17), (4, .int v18)]) dX3_findFollows_82 3 rfl rfl (by decide) (fun _ => rfl) (fun v23 => ?_)
      refine rf_goto C 39 dX3_findFollows_85 (by decide) ?_
      exact rf_sub [1, 2, 3, 0] rfl (hrec14 v17 v23 s21 trivial)
    refine rf_aload_n C dX3_findFollows_64 rfl 0 rfl ?_
    refine rf_aload_n C dX3_findFollows_65 rfl 1 rfl ?_
    refine rf_iload C dX3_findFollows_66 4 rfl ?_
    refine rf_callVi C (rmc := rmOf 3 68) [.ref ((gE Γ).2.1 (gId a1 0)), .int v18] (by decide) (mX3_growFollows (gL Γ) n a1 v18 s21 ha1) mfX3_growFollows mvX3_growFollows mlX3_96 rfl oX3 rfl rfl rfl (Nat.le_of_ble_eq_true rfl) ⟨Nat.le_of_ble_eq_true rfl, Nat.le_of_ble_eq_true rfl⟩ dX3_findFollows_68 (fun r25 s24 => ?_)
    refine rf_jn2 (fun _ _ => True) (fun _ s27 => s27) (fun v26 s27 => [(0, .ref ((gE Γ).2.1 13)), (1, .ref ((gE Γ).2.1 (gId a1 0))), (2, .int v26), (3, .int v12), (4, .int v18)]) (fun v26 s27 => []) 76 (fun v26 s27 _ => ?_) (fun j28 hj28 => ?_)
    · refine rf_iinc C (fun v29 => [(4, .int v29), (0, .ref ((gE Γ).2.1 13)), (1, .ref ((gE Γ).2.1 (gId a1 0))), (2, .int v26), (3, .int v12)]) dX3_findFollows_76 4 rfl rfl (by decide) (fun _ => rfl) (fun v29 => ?_)
      refine rf_goto C 55 dX3_findFollows_79 (by decide) ?_
      exact rf_sub [1, 2, 3, 4, 0] rfl (hrec20 v26 v29 s27 trivial)
    refine rf_if_eq C 76 dX3_findFollows_71 (by decide) (fun _ => ?_) (fun _ => ?_)
    · exact rf_sub [0, 1, 2, 3, 4] rfl (hj28 v17 s24 trivial)
    refine rf_iconst C (v := (nI 1)) dX3_findFollows_74 rfl ?_
    refine rf_istore_n C (fun v30 => [(2, .int v30), (0, .ref ((gE Γ).2.1 13)), (1, .ref ((gE Γ).2.1 (gId a1 0))), (3, .int v12), (4, .int v18)]) dX3_findFollows_75 rfl (by decide) (fun _ => rfl) (fun v30 => ?_)
    exact rf_sub [1, 2, 0, 3, 4] rfl (hj28 v30 s24 trivial)
  refine rf_aload_n C dX3_findFollows_8 rfl 0 rfl ?_
  refine rf_get C (v := .ref ((gE Γ).2.1 16)) cfX3 flX3_29 (by decide) oX3 rfl dX3_findFollows_9 ?_
  refine rf_iload_n C dX3_findFollows_12 rfl 2 rfl ?_
  refine rf_aldW C ar16 dX3_findFollows_13 (fun w31 hw31 => ?_)
  refine rf_callVv C (rmc := rmOf 1 24) [] (by decide) (mX10_drop (gL Γ) n w31 s3 (Nat.lt_of_lt_of_le hw31 (by decide))) mfX10_drop mvX10_drop mlX3_71 rfl (oX10 (Nat.lt_of_lt_of_le hw31 (by decide))) rfl rfl rfl (Nat.le_of_ble_eq_true rfl) ⟨Nat.le_of_ble_eq_true rfl, Nat.le_of_ble_eq_true rfl⟩ dX3_findFollows_14 (fun s32 => ?_)
  refine rf_iinc C (fun v33 => [(2, .int v33), (0, .ref ((gE Γ).2.1 13)), (1, .ref ((gE Γ).2.1 (gId a1 0)))]) dX3_findFollows_17 2 rfl rfl (by decide) (fun _ => rfl) (fun v33 => ?_)
  refine rf_goto C 2 dX3_findFollows_20 (by decide) ?_
  exact rf_sub [1, 2, 0] rfl (hrec4 v33 s32 trivial)

def fX4_begin (t : Nat) (a1 : Int32) (s0 : PH) : Option (Int32 × PH) :=
(ra 6 a1 (s0.1 (gId t 4)) fun (v1 : Int32) =>
(some (v1, s0)))
set_option maxRecDepth 20000 in
set_option maxHeartbeats 2000000 in
theorem mX4_begin (l : Launch) (t : Nat) (a1 : Int32) (s0 : PH) (ht : t < 6) : Cti 148 l yX4_begin cX4_begin 2 (some .int) (rmOf 0 0) (fun E => [.ref (E.2.1 (gId t 0)), .int a1]) s0 (fX4_begin t a1 s0) := by
  refine Cti.of (by decide) rfl (lv := fun E => [(0, .ref (E.2.1 (gId t 0))), (1, .int a1)]) (fun _ => Nat.le_of_ble_eq_true rfl) (fun _ => rfl) (fun Γ hΓ _ C => ?_)
  subst hΓ
  unfold fX4_begin
  refine rf_aload_n C dX4_begin_0 rfl 0 rfl ?_
  refine rf_get C (v := .ref ((gE Γ).2.1 (gId t 4))) cfX4 flX4_21 (by decide) (oX4 ht) rfl dX4_begin_1 ?_
  refine rf_iload_n C dX4_begin_4 rfl 1 rfl ?_
  refine rf_iald C (arG4 ht) dX4_begin_5 (fun v1 => ?_)
  exact rf_iret C dX4_begin_6

def fX4_end (t : Nat) (a1 : Int32) (s0 : PH) : Option (Int32 × PH) :=
(ra 6 a1 (s0.1 (gId t 5)) fun (v1 : Int32) =>
(some (v1, s0)))
set_option maxRecDepth 20000 in
set_option maxHeartbeats 2000000 in
theorem mX4_end (l : Launch) (t : Nat) (a1 : Int32) (s0 : PH) (ht : t < 6) : Cti 148 l yX4_end cX4_end 2 (some .int) (rmOf 0 0) (fun E => [.ref (E.2.1 (gId t 0)), .int a1]) s0 (fX4_end t a1 s0) := by
  refine Cti.of (by decide) rfl (lv := fun E => [(0, .ref (E.2.1 (gId t 0))), (1, .int a1)]) (fun _ => Nat.le_of_ble_eq_true rfl) (fun _ => rfl) (fun Γ hΓ _ C => ?_)
  subst hΓ
  unfold fX4_end
  refine rf_aload_n C dX4_end_0 rfl 0 rfl ?_
  refine rf_get C (v := .ref ((gE Γ).2.1 (gId t 5))) cfX4 flX4_24 (by decide) (oX4 ht) rfl dX4_end_1 ?_
  refine rf_iload_n C dX4_end_4 rfl 1 rfl ?_
  refine rf_iald C (arG5 ht) dX4_end_5 (fun v1 => ?_)
  exact rf_iret C dX4_end_6

def fX10_meets (n : Nat) (t : Nat) (a1 : Nat) (a2 : Int32) (s0 : PH) : Option (Int32 × PH) :=
(if a2 = 0 then
(if (s0.2.1 (wId t 0) 2) = (0 : Int64) then
(some ((nI 0), s0))
else
(if (s0.2.1 (wId a1 0) 2) = (0 : Int64) then
(some ((nI 0), s0))
else
(some ((nI 1), s0))))
else
(if (nI 3) ≤ a2 then
(lt (nI 0) fun (v1 : Int32) =>
(loo2 (fun (recrec4 : Int32 → PH → Option (Int32 × PH)) (v2 : Int32) (s3 : PH) =>
(if (nI 6) ≤ v2 then
(some ((nI 0), s3))
else
(ra 6 v2 (s3.2.1 (wId t 1)) fun (u5 : Int64) =>
(ra 6 v2 (s3.2.1 (wId a1 1)) fun (u6 : Int64) =>
(if (u5 &&& u6) = (0 : Int64) then
(lt (v2 + (nI 1)) fun (v7 : Int32) =>
(recrec4 v7 s3))
else
(some ((nI 1), s3))))))) n v1 s0))
else
(jn (fun (u8 : Int64) (s9 : PH) =>
(if u8 = (0 : Int64) then
(some ((nI 0), s9))
else
(some ((nI 1), s9)))) (fun (j10 : Int64 → PH → Option (Int32 × PH)) =>
(if a2 = (nI 1) then
(j10 ((s0.2.1 (wId t 0) 2) &&& (s0.2.1 (wId a1 0) 2)) s0)
else
(j10 ((s0.2.1 (wId t 0) 1) &&& (s0.2.1 (wId a1 0) 1)) s0))))))
set_option maxRecDepth 20000 in
set_option maxHeartbeats 2000000 in
theorem mX10_meets (l : Launch) (n : Nat) (t : Nat) (a1 : Nat) (a2 : Int32) (s0 : PH) (ht : t < 36) (ha1 : a1 < 36) : Cti 148 l yX10_meets cX10_meets 4 (some .boolean) (rmOf 0 0) (fun E => [.ref (E.2.1 (wId t 0)), .ref (E.2.1 (wId a1 0)), .int a2]) s0 (fX10_meets n t a1 a2 s0) := by
  refine Cti.of (by decide) rfl (lv := fun E => [(0, .ref (E.2.1 (wId t 0))), (1, .ref (E.2.1 (wId a1 0))), (2, .int a2)]) (fun _ => Nat.le_of_ble_eq_true rfl) (fun _ => rfl) (fun Γ hΓ _ C => ?_)
  subst hΓ
  unfold fX10_meets
  refine rf_iload_n C dX10_meets_0 rfl 2 rfl ?_
  refine rf_if_ne C 28 dX10_meets_1 (by decide) (fun _ => ?_) (fun _ => ?_)
  · refine rf_iload_n C dX10_meets_28 rfl 2 rfl ?_
    refine rf_iconst C (v := (nI 3)) dX10_meets_29 rfl ?_
    refine rf_icmp_ge C 70 dX10_meets_30 (by decide) (fun _ => ?_) (fun _ => ?_)
    · refine rf_iconst C (v := (nI 0)) dX10_meets_70 rfl ?_
      refine rf_istore_n C (fun v1 => [(3, .int v1), (0, .ref ((gE Γ).2.1 (wId t 0))), (1, .ref ((gE Γ).2.1 (wId a1 0))), (2, .int a2)]) dX10_meets_71 rfl (by decide) (fun _ => rfl) (fun v1 => ?_)
      refine rf_sub [1, 2, 0] rfl ?_
      refine rf_loo2 (fun _ _ => True) (fun _ s3 => s3) (fun v2 s3 => [(0, .ref ((gE Γ).2.1 (wId t 0))), (1, .ref ((gE Γ).2.1 (wId a1 0))), (3, .int v2)]) (fun recrec4 hrec4 v2 s3 _ => ?_) n v1 s0 trivial
      refine rf_iload_n C dX10_meets_72 rfl 2 rfl ?_
      refine rf_bipush C (v := (nI 6)) dX10_meets_73 rfl ?_
      refine rf_icmp_ge C 104 dX10_meets_75 (by decide) (fun _ => ?_) (fun _ => ?_)
      · refine rf_iconst C (v := (nI 0)) dX10_meets_104 rfl ?_
        exact rf_zret C rfl dX10_meets_105
      refine rf_aload_n C dX10_meets_78 rfl 0 rfl ?_
      refine rf_get C (v := .ref ((gE Γ).2.1 (wId t 1))) cfX10 flX10_9 (by decide) (oX10 ht) rfl dX10_meets_79 ?_
      refine rf_iload_n C dX10_meets_82 rfl 2 rfl ?_
      refine rf_lald C (arW1 ht) dX10_meets_83 (fun u5 => ?_)
      refine rf_aload_n C dX10_meets_84 rfl 1 rfl ?_
      refine rf_get C (v := .ref ((gE Γ).2.1 (wId a1 1))) cfX10 flX10_9 (by decide) (oX10 ha1) rfl dX10_meets_85 ?_
      refine rf_iload_n C dX10_meets_88 rfl 2 rfl ?_
      refine rf_lald C (arW1 ha1) dX10_meets_89 (fun u6 => ?_)
      refine rf_land C dX10_meets_90 ?_
      refine rf_lconst C (v := (0 : Int64)) dX10_meets_91 rfl ?_
      refine rf_lcmp_eq C 98 dX10_meets_92 dX10_meets_93 (by decide) (fun _ => ?_) (fun _ => ?_)
      · refine rf_iinc C (fun v7 => [(3, .int v7), (0, .ref ((gE Γ).2.1 (wId t 0))), (1, .ref ((gE Γ).2.1 (wId a1 0)))]) dX10_meets_98 2 rfl rfl (by decide) (fun _ => rfl) (fun v7 => ?_)
        refine rf_goto C 72 dX10_meets_101 (by decide) ?_
        exact rf_sub [1, 2, 0] rfl (hrec4 v7 s3 trivial)
      refine rf_iconst C (v := (nI 1)) dX10_meets_96 rfl ?_
      exact rf_zret C rfl dX10_meets_97
    refine rf_iload_n C dX10_meets_33 rfl 2 rfl ?_
    refine rf_iconst C (v := (nI 1)) dX10_meets_34 rfl ?_
    refine rf_jn2 (fun _ _ => True) (fun _ s9 => s9) (fun u8 s9 => []) (fun u8 s9 => [.long u8]) 59 (fun u8 s9 _ => ?_) (fun j10 hj10 => ?_)
    · refine rf_lconst C (v := (0 : Int64)) dX10_meets_59 rfl ?_
      refine rf_lcmp_eq C 68 dX10_meets_60 dX10_meets_61 (by decide) (fun _ => ?_) (fun _ => ?_)
      · refine rf_iconst C (v := (nI 0)) dX10_meets_68 rfl ?_
        exact rf_zret C rfl dX10_meets_69
      refine rf_iconst C (v := (nI 1)) dX10_meets_64 rfl ?_
      refine rf_goto C 69 dX10_meets_65 (by decide) ?_
      exact rf_zret C rfl dX10_meets_69
    refine rf_icmp_ne C 50 dX10_meets_35 (by decide) (fun _ => ?_) (fun _ => ?_)
    · refine rf_aload_n C dX10_meets_50 rfl 0 rfl ?_
      refine rf_get C (v := .long (s0.2.1 (wId t 0) 1)) cfX10 flX10_15 (by decide) (oX10 ht) rfl dX10_meets_51 ?_
      refine rf_aload_n C dX10_meets_54 rfl 1 rfl ?_
      refine rf_get C (v := .long (s0.2.1 (wId a1 0) 1)) cfX10 flX10_15 (by decide) (oX10 ha1) rfl dX10_meets_55 ?_
      refine rf_land C dX10_meets_58 ?_
      exact rf_sub [] rfl (hj10 ((s0.2.1 (wId t 0) 1) &&& (s0.2.1 (wId a1 0) 1)) s0 trivial)
    refine rf_aload_n C dX10_meets_38 rfl 0 rfl ?_
    refine rf_get C (v := .long (s0.2.1 (wId t 0) 2)) cfX10 flX10_19 (by decide) (oX10 ht) rfl dX10_meets_39 ?_
    refine rf_aload_n C dX10_meets_42 rfl 1 rfl ?_
    refine rf_get C (v := .long (s0.2.1 (wId a1 0) 2)) cfX10 flX10_19 (by decide) (oX10 ha1) rfl dX10_meets_43 ?_
    refine rf_land C dX10_meets_46 ?_
    refine rf_goto C 59 dX10_meets_47 (by decide) ?_
    exact rf_sub [] rfl (hj10 ((s0.2.1 (wId t 0) 2) &&& (s0.2.1 (wId a1 0) 2)) s0 trivial)
  refine rf_aload_n C dX10_meets_4 rfl 0 rfl ?_
  refine rf_get C (v := .long (s0.2.1 (wId t 0) 2)) cfX10 flX10_19 (by decide) (oX10 ht) rfl dX10_meets_5 ?_
  refine rf_lconst C (v := (0 : Int64)) dX10_meets_8 rfl ?_
  refine rf_lcmp_eq C 26 dX10_meets_9 dX10_meets_10 (by decide) (fun _ => ?_) (fun _ => ?_)
  · refine rf_iconst C (v := (nI 0)) dX10_meets_26 rfl ?_
    exact rf_zret C rfl dX10_meets_27
  refine rf_aload_n C dX10_meets_13 rfl 1 rfl ?_
  refine rf_get C (v := .long (s0.2.1 (wId a1 0) 2)) cfX10 flX10_19 (by decide) (oX10 ha1) rfl dX10_meets_14 ?_
  refine rf_lconst C (v := (0 : Int64)) dX10_meets_17 rfl ?_
  refine rf_lcmp_eq C 26 dX10_meets_18 dX10_meets_19 (by decide) (fun _ => ?_) (fun _ => ?_)
  · refine rf_iconst C (v := (nI 0)) dX10_meets_26 rfl ?_
    exact rf_zret C rfl dX10_meets_27
  refine rf_iconst C (v := (nI 1)) dX10_meets_22 rfl ?_
  refine rf_goto C 27 dX10_meets_23 (by decide) ?_
  exact rf_zret C rfl dX10_meets_27

def fX3_firstClash (n : Nat) (a1 : Nat) (a2 : Int32) (a3 : Int32) (s0 : PH) : Option (Int32 × PH) :=
(bd (fX4_begin a1 a2 s0) fun (r2 : Int32) (s1 : PH) =>
(lt r2 fun (v3 : Int32) =>
(loo2 (fun (recrec6 : Int32 → PH → Option (Int32 × PH)) (v4 : Int32) (s5 : PH) =>
(bd (fX4_end a1 a2 s5) fun (r8 : Int32) (s7 : PH) =>
(if r8 ≤ v4 then
(some ((-9 : Int32), s7))
else
(lt (v4 + (nI 1)) fun (v9 : Int32) =>
(loo2 (fun (recrec12 : Int32 → PH → Option (Int32 × PH)) (v10 : Int32) (s11 : PH) =>
(bd (fX4_end a1 a2 s11) fun (r14 : Int32) (s13 : PH) =>
(if r14 ≤ v10 then
(lt (v4 + (nI 1)) fun (v15 : Int32) =>
(recrec6 v15 s13))
else
(ra 16 v4 (fun j => 18 + j) fun (w16 : Nat) =>
(ra 16 v10 (fun j => 18 + j) fun (w17 : Nat) =>
(bd (fX10_meets n w16 w17 a3 s13) fun (r19 : Int32) (s18 : PH) =>
(if r19 = 0 then
(lt (v10 + (nI 1)) fun (v20 : Int32) =>
(recrec12 v20 s18))
else
(some ((((nI 100) * v4) + v10), s18))))))))) n v9 s7))))) n v3 s1)))
set_option maxRecDepth 20000 in
set_option maxHeartbeats 2000000 in
theorem mX3_firstClash (l : Launch) (n : Nat) (a1 : Nat) (a2 : Int32) (a3 : Int32) (s0 : PH) (ha1 : a1 < 6) : Cti 148 l yX3_firstClash cX3_firstClash 6 (some .int) (rmOf 1 23) (fun E => [.ref (E.2.1 13), .ref (E.2.1 (gId a1 0)), .int a2, .int a3]) s0 (fX3_firstClash n a1 a2 a3 s0) := by
  refine Cti.of (by decide) rfl (lv := fun E => [(0, .ref (E.2.1 13)), (1, .ref (E.2.1 (gId a1 0))), (2, .int a2), (3, .int a3)]) (fun _ => Nat.le_of_ble_eq_true rfl) (fun _ => rfl) (fun Γ hΓ _ C => ?_)
  subst hΓ
  unfold fX3_firstClash
  refine rf_aload_n C dX3_firstClash_0 rfl 1 rfl ?_
  refine rf_iload_n C dX3_firstClash_1 rfl 2 rfl ?_
  refine rf_callVi C (rmc := rmOf 0 0) [.int a2] (by decide) (mX4_begin (gL Γ) a1 a2 s0 ha1) mfX4_begin mvX4_begin mlX3_122 rfl (oX4 ha1) rfl rfl rfl (Nat.le_of_ble_eq_true rfl) ⟨Nat.le_of_ble_eq_true rfl, Nat.le_of_ble_eq_true rfl⟩ dX3_firstClash_2 (fun r2 s1 => ?_)
  refine rf_istore C (fun v3 => [(4, .int v3), (0, .ref ((gE Γ).2.1 13)), (1, .ref ((gE Γ).2.1 (gId a1 0))), (2, .int a2), (3, .int a3)]) dX3_firstClash_5 (by decide) (fun _ => rfl) (fun v3 => ?_)
  refine rf_sub [1, 2, 3, 4, 0] rfl ?_
  refine rf_loo2 (fun _ _ => True) (fun _ s5 => s5) (fun v4 s5 => [(0, .ref ((gE Γ).2.1 13)), (1, .ref ((gE Γ).2.1 (gId a1 0))), (2, .int a2), (3, .int a3), (4, .int v4)]) (fun recrec6 hrec6 v4 s5 _ => ?_) n v3 s1 trivial
  refine rf_iload C dX3_firstClash_7 4 rfl ?_
  refine rf_aload_n C dX3_firstClash_9 rfl 1 rfl ?_
  refine rf_iload_n C dX3_firstClash_10 rfl 2 rfl ?_
  refine rf_callVi C (rmc := rmOf 0 0) [.int a2] (by decide) (mX4_end (gL Γ) a1 a2 s5 ha1) mfX4_end mvX4_end mlX3_125 rfl (oX4 ha1) rfl rfl rfl (Nat.le_of_ble_eq_true rfl) ⟨Nat.le_of_ble_eq_true rfl, Nat.le_of_ble_eq_true rfl⟩ dX3_firstClash_11 (fun r8 s7 => ?_)
  refine rf_icmp_ge C 75 dX3_firstClash_14 (by decide) (fun _ => ?_) (fun _ => ?_)
  · refine rf_bipush C (v := (-9 : Int32)) dX3_firstClash_75 rfl ?_
    exact rf_iret C dX3_firstClash_77
  refine rf_iload C dX3_firstClash_17 4 rfl ?_
  refine rf_iconst C (v := (nI 1)) dX3_firstClash_19 rfl ?_
  refine rf_iadd C dX3_firstClash_20 ?_
  refine rf_istore C (fun v9 => [(5, .int v9), (0, .ref ((gE Γ).2.1 13)), (1, .ref ((gE Γ).2.1 (gId a1 0))), (2, .int a2), (3, .int a3), (4, .int v4)]) dX3_firstClash_21 (by decide) (fun _ => rfl) (fun v9 => ?_)
  refine rf_sub [1, 2, 3, 4, 5, 0] rfl ?_
  refine rf_loo2 (fun _ _ => True) (fun _ s11 => s11) (fun v10 s11 => [(0, .ref ((gE Γ).2.1 13)), (1, .ref ((gE Γ).2.1 (gId a1 0))), (2, .int a2), (3, .int a3), (4, .int v4), (5, .int v10)]) (fun recrec12 hrec12 v10 s11 _ => ?_) n v9 s7 trivial
  refine rf_iload C dX3_firstClash_23 5 rfl ?_
  refine rf_aload_n C dX3_firstClash_25 rfl 1 rfl ?_
  refine rf_iload_n C dX3_firstClash_26 rfl 2 rfl ?_
  refine rf_callVi C (rmc := rmOf 0 0) [.int a2] (by decide) (mX4_end (gL Γ) a1 a2 s11 ha1) mfX4_end mvX4_end mlX3_125 rfl (oX4 ha1) rfl rfl rfl (Nat.le_of_ble_eq_true rfl) ⟨Nat.le_of_ble_eq_true rfl, Nat.le_of_ble_eq_true rfl⟩ dX3_firstClash_27 (fun r14 s13 => ?_)
  refine rf_icmp_ge C 69 dX3_firstClash_30 (by decide) (fun _ => ?_) (fun _ => ?_)
  · refine rf_iinc C (fun v15 => [(4, .int v15), (0, .ref ((gE Γ).2.1 13)), (1, .ref ((gE Γ).2.1 (gId a1 0))), (2, .int a2), (3, .int a3), (5, .int v10)]) dX3_firstClash_69 4 rfl rfl (by decide) (fun _ => rfl) (fun v15 => ?_)
    refine rf_goto C 7 dX3_firstClash_72 (by decide) ?_
    exact rf_sub [1, 2, 3, 4, 0] rfl (hrec6 v15 s13 trivial)
  refine rf_aload_n C dX3_firstClash_33 rfl 0 rfl ?_
  refine rf_get C (v := .ref ((gE Γ).2.1 17)) cfX3 flX3_32 (by decide) oX3 rfl dX3_firstClash_34 ?_
  refine rf_iload C dX3_firstClash_37 4 rfl ?_
  refine rf_aldW C ar17 dX3_firstClash_39 (fun w16 hw16 => ?_)
  refine rf_aload_n C dX3_firstClash_40 rfl 0 rfl ?_
  refine rf_get C (v := .ref ((gE Γ).2.1 17)) cfX3 flX3_32 (by decide) oX3 rfl dX3_firstClash_41 ?_
  refine rf_iload C dX3_firstClash_44 5 rfl ?_
  refine rf_aldW C ar17 dX3_firstClash_46 (fun w17 hw17 => ?_)
  refine rf_iload_n C dX3_firstClash_47 rfl 3 rfl ?_
  refine rf_callVi C (rmc := rmOf 0 0) [.ref ((gE Γ).2.1 (wId w17 0)), .int a3] (by decide) (mX10_meets (gL Γ) n w16 w17 a3 s13 (Nat.lt_of_lt_of_le hw16 (by decide)) (Nat.lt_of_lt_of_le hw17 (by decide))) mfX10_meets mvX10_meets mlX3_128 rfl (oX10 (Nat.lt_of_lt_of_le hw16 (by decide))) rfl rfl rfl (Nat.le_of_ble_eq_true rfl) ⟨Nat.le_of_ble_eq_true rfl, Nat.le_of_ble_eq_true rfl⟩ dX3_firstClash_48 (fun r19 s18 => ?_)
  refine rf_if_eq C 63 dX3_firstClash_51 (by decide) (fun _ => ?_) (fun _ => ?_)
  · refine rf_iinc C (fun v20 => [(5, .int v20), (0, .ref ((gE Γ).2.1 13)), (1, .ref ((gE Γ).2.1 (gId a1 0))), (2, .int a2), (3, .int a3), (4, .int v4)]) dX3_firstClash_63 5 rfl rfl (by decide) (fun _ => rfl) (fun v20 => ?_)
    refine rf_goto C 23 dX3_firstClash_66 (by decide) ?_
    exact rf_sub [1, 2, 3, 4, 5, 0] rfl (hrec12 v20 s18 trivial)
  refine rf_bipush C (v := (nI 100)) dX3_firstClash_54 rfl ?_
  refine rf_iload C dX3_firstClash_56 4 rfl ?_
  refine rf_imul C dX3_firstClash_58 ?_
  refine rf_iload C dX3_firstClash_59 5 rfl ?_
  refine rf_iadd C dX3_firstClash_61 ?_
  exact rf_iret C dX3_firstClash_62

def fX3_findDepth (n : Nat) (a1 : Nat) (a2 : Int32) (s0 : PH) : Option (Int32 × PH) :=
(lt (nI 0) fun (v1 : Int32) =>
(loo2 (fun (recrec4 : Int32 → PH → Option (Int32 × PH)) (v2 : Int32) (s3 : PH) =>
(if (nI 3) < v2 then
(some ((-9 : Int32), s3))
else
(bd (fX3_firstClash n a1 a2 v2 s3) fun (r6 : Int32) (s5 : PH) =>
(if r6 = (-9 : Int32) then
(some (v2, s5))
else
(lt (v2 + (nI 1)) fun (v7 : Int32) =>
(recrec4 v7 s5)))))) n v1 s0))
set_option maxRecDepth 20000 in
set_option maxHeartbeats 2000000 in
theorem mX3_findDepth (l : Launch) (n : Nat) (a1 : Nat) (a2 : Int32) (s0 : PH) (ha1 : a1 < 6) : Cti 148 l yX3_findDepth cX3_findDepth 4 (some .int) (rmOf 2 48) (fun E => [.ref (E.2.1 13), .ref (E.2.1 (gId a1 0)), .int a2]) s0 (fX3_findDepth n a1 a2 s0) := by
  refine Cti.of (by decide) rfl (lv := fun E => [(0, .ref (E.2.1 13)), (1, .ref (E.2.1 (gId a1 0))), (2, .int a2)]) (fun _ => Nat.le_of_ble_eq_true rfl) (fun _ => rfl) (fun Γ hΓ _ C => ?_)
  subst hΓ
  unfold fX3_findDepth
  refine rf_iconst C (v := (nI 0)) dX3_findDepth_0 rfl ?_
  refine rf_istore_n C (fun v1 => [(3, .int v1), (0, .ref ((gE Γ).2.1 13)), (1, .ref ((gE Γ).2.1 (gId a1 0))), (2, .int a2)]) dX3_findDepth_1 rfl (by decide) (fun _ => rfl) (fun v1 => ?_)
  refine rf_sub [1, 2, 3, 0] rfl ?_
  refine rf_loo2 (fun _ _ => True) (fun _ s3 => s3) (fun v2 s3 => [(0, .ref ((gE Γ).2.1 13)), (1, .ref ((gE Γ).2.1 (gId a1 0))), (2, .int a2), (3, .int v2)]) (fun recrec4 hrec4 v2 s3 _ => ?_) n v1 s0 trivial
  refine rf_iload_n C dX3_findDepth_2 rfl 3 rfl ?_
  refine rf_iconst C (v := (nI 3)) dX3_findDepth_3 rfl ?_
  refine rf_icmp_gt C 27 dX3_findDepth_4 (by decide) (fun _ => ?_) (fun _ => ?_)
  · refine rf_bipush C (v := (-9 : Int32)) dX3_findDepth_27 rfl ?_
    exact rf_iret C dX3_findDepth_29
  refine rf_aload_n C dX3_findDepth_7 rfl 0 rfl ?_
  refine rf_aload_n C dX3_findDepth_8 rfl 1 rfl ?_
  refine rf_iload_n C dX3_findDepth_9 rfl 2 rfl ?_
  refine rf_iload_n C dX3_findDepth_10 rfl 3 rfl ?_
  refine rf_callVi C (rmc := rmOf 1 23) [.ref ((gE Γ).2.1 (gId a1 0)), .int a2, .int v2] (by decide) (mX3_firstClash (gL Γ) n a1 a2 v2 s3 ha1) mfX3_firstClash mvX3_firstClash mlX3_118 rfl oX3 rfl rfl rfl (Nat.le_of_ble_eq_true rfl) ⟨Nat.le_of_ble_eq_true rfl, Nat.le_of_ble_eq_true rfl⟩ dX3_findDepth_11 (fun r6 s5 => ?_)
  refine rf_bipush C (v := (-9 : Int32)) dX3_findDepth_14 rfl ?_
  refine rf_icmp_ne C 21 dX3_findDepth_16 (by decide) (fun _ => ?_) (fun _ => ?_)
  · refine rf_iinc C (fun v7 => [(3, .int v7), (0, .ref ((gE Γ).2.1 13)), (1, .ref ((gE Γ).2.1 (gId a1 0))), (2, .int a2)]) dX3_findDepth_21 3 rfl rfl (by decide) (fun _ => rfl) (fun v7 => ?_)
    refine rf_goto C 2 dX3_findDepth_24 (by decide) ?_
    exact rf_sub [1, 2, 3, 0] rfl (hrec4 v7 s5 trivial)
  refine rf_iload_n C dX3_findDepth_19 rfl 3 rfl ?_
  exact rf_iret C dX3_findDepth_20

def fX10_lastDigits (n : Nat) (a1 : Int64) (s0 : PH) : Option (Int64 × PH) :=
(lt (0 : Int64) fun (u1 : Int64) =>
(lt (nI 1) fun (v2 : Int32) =>
(loo3 (fun (recrec6 : Int64 → Int32 → PH → Option (Int64 × PH)) (u3 : Int64) (v4 : Int32) (s5 : PH) =>
(if (nI 6) ≤ v4 then
(some (u3, s5))
else
(lt (u3 ||| ((a1 >>> (((nI 6) * v4).toInt64 &&& 63)) &&& (62 : Int64))) fun (u7 : Int64) =>
(lt (v4 + (nI 1)) fun (v8 : Int32) =>
(recrec6 u7 v8 s5))))) n u1 v2 s0)))
set_option maxRecDepth 20000 in
set_option maxHeartbeats 2000000 in
theorem mX10_lastDigits (l : Launch) (n : Nat) (a1 : Int64) (s0 : PH) : Ctl 148 l yX10_lastDigits cX10_lastDigits 5 (some .long) (rmOf 0 0) (fun E => [.long a1]) s0 (fX10_lastDigits n a1 s0) := by
  refine Ctl.of (by decide) rfl (lv := fun E => [(0, .long a1)]) (fun _ => Nat.le_of_ble_eq_true rfl) (fun _ => rfl) (fun Γ hΓ _ C => ?_)
  subst hΓ
  unfold fX10_lastDigits
  refine rf_lconst C (v := (0 : Int64)) dX10_lastDigits_0 rfl ?_
  refine rf_lstore_n C (fun u1 => [(2, .long u1), (0, .long a1)]) dX10_lastDigits_1 rfl (by decide) (fun _ => rfl) (fun u1 => ?_)
  refine rf_iconst C (v := (nI 1)) dX10_lastDigits_2 rfl ?_
  refine rf_istore C (fun v2 => [(4, .int v2), (2, .long u1), (0, .long a1)]) dX10_lastDigits_3 (by decide) (fun _ => rfl) (fun v2 => ?_)
  refine rf_sub [2, 1, 0] rfl ?_
  refine rf_loo3 (fun _ _ _ => True) (fun _ _ s5 => s5) (fun u3 v4 s5 => [(0, .long a1), (2, .long u3), (4, .int v4)]) (fun recrec6 hrec6 u3 v4 s5 _ => ?_) n u1 v2 s0 trivial
  refine rf_iload C dX10_lastDigits_5 2 rfl ?_
  refine rf_bipush C (v := (nI 6)) dX10_lastDigits_7 rfl ?_
  refine rf_icmp_ge C 32 dX10_lastDigits_9 (by decide) (fun _ => ?_) (fun _ => ?_)
  · refine rf_lload_n C dX10_lastDigits_32 rfl 1 rfl ?_
    exact rf_lret C dX10_lastDigits_33
  refine rf_lload_n C dX10_lastDigits_12 rfl 1 rfl ?_
  refine rf_lload_n C dX10_lastDigits_13 rfl 0 rfl ?_
  refine rf_bipush C (v := (nI 6)) dX10_lastDigits_14 rfl ?_
  refine rf_iload C dX10_lastDigits_16 2 rfl ?_
  refine rf_imul C dX10_lastDigits_18 ?_
  refine rf_lshr C dX10_lastDigits_19 ?_
  refine rf_ldc2 C dX10_lastDigits_20 klX10_41 ?_
  refine rf_land C dX10_lastDigits_23 ?_
  refine rf_lor C dX10_lastDigits_24 ?_
  refine rf_lstore_n C (fun u7 => [(2, .long u7), (0, .long a1), (4, .int v4)]) dX10_lastDigits_25 rfl (by decide) (fun _ => rfl) (fun u7 => ?_)
  refine rf_iinc C (fun v8 => [(4, .int v8), (2, .long u7), (0, .long a1)]) dX10_lastDigits_26 2 rfl rfl (by decide) (fun _ => rfl) (fun v8 => ?_)
  refine rf_goto C 5 dX10_lastDigits_29 (by decide) ?_
  exact rf_sub [2, 1, 0] rfl (hrec6 u7 v8 s5 trivial)

def fX10_markMask (a1 : Int64) (a2 : Int32) (s0 : PH) : Option (Int32 × PH) :=
(if a2 = 0 then
(some ((((a1 &&& (62 : Int64)) >>> ((nI 1).toInt64 &&& 63)).toInt32 ||| (nI 0)), s0))
else
(some ((((a1 &&& (62 : Int64)) >>> ((nI 1).toInt64 &&& 63)).toInt32 ||| (nI 32)), s0)))
set_option maxRecDepth 20000 in
set_option maxHeartbeats 2000000 in
theorem mX10_markMask (l : Launch) (a1 : Int64) (a2 : Int32) (s0 : PH) : Cti 148 l yX10_markMask cX10_markMask 3 (some .int) (rmOf 0 0) (fun E => [.long a1, .int a2]) s0 (fX10_markMask a1 a2 s0) := by
  refine Cti.of (by decide) rfl (lv := fun E => [(0, .long a1), (2, .int a2)]) (fun _ => Nat.le_of_ble_eq_true rfl) (fun _ => rfl) (fun Γ hΓ _ C => ?_)
  subst hΓ
  unfold fX10_markMask
  refine rf_lload_n C dX10_markMask_0 rfl 0 rfl ?_
  refine rf_ldc2 C dX10_markMask_1 klX10_41 ?_
  refine rf_land C dX10_markMask_4 ?_
  refine rf_iconst C (v := (nI 1)) dX10_markMask_5 rfl ?_
  refine rf_lshr C dX10_markMask_6 ?_
  refine rf_l2i C dX10_markMask_7 ?_
  refine rf_iload_n C dX10_markMask_8 rfl 1 rfl ?_
  refine rf_if_eq C 17 dX10_markMask_9 (by decide) (fun _ => ?_) (fun _ => ?_)
  · refine rf_iconst C (v := (nI 0)) dX10_markMask_17 rfl ?_
    refine rf_ior C dX10_markMask_18 ?_
    exact rf_iret C dX10_markMask_19
  refine rf_bipush C (v := (nI 32)) dX10_markMask_12 rfl ?_
  refine rf_goto C 18 dX10_markMask_14 (by decide) ?_
  refine rf_ior C dX10_markMask_18 ?_
  exact rf_iret C dX10_markMask_19

