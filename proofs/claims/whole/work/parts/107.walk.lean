def fX0_enterParts (n : Nat) (a1 : Int32) (s0 : PH) : Option (Unit × PH) :=
(lt (nI 0) fun (v1 : Int32) =>
(loo2 (fun (recrec4 : Int32 → PH → Option (Unit × PH)) (v2 : Int32) (s3 : PH) =>
(if a1 < v2 then
(some ((), s3))
else
(lt (nI 0) fun (v5 : Int32) =>
(bd (fX1_setEntry 1 v2 v2 v5 s3) fun _ (s6 : PH) =>
(lt (v2 + (nI 1)) fun (v7 : Int32) =>
(loo3 (fun (recrec11 : Int32 → Int32 → PH → Option (Unit × PH)) (v8 : Int32) (v9 : Int32) (s10 : PH) =>
(if a1 < v9 then
(lt (v2 + (nI 1)) fun (v12 : Int32) =>
(recrec4 v12 s10))
else
(bd (fX1_letter 1 (v9 - (nI 1)) s10) fun (r14 : Int32) (s13 : PH) =>
(lt ((((nI 5) * v8) + r14) + (nI 1)) fun (v15 : Int32) =>
(bd (fX1_setEntry 1 v2 v9 v15 s13) fun _ (s16 : PH) =>
(lt (v9 + (nI 1)) fun (v17 : Int32) =>
(recrec11 v15 v17 s16))))))) n v5 v7 s6)))))) n v1 s0))
set_option maxRecDepth 20000 in
set_option maxHeartbeats 2000000 in
theorem mX0_enterParts (l : Launch) (n : Nat) (a1 : Int32) (s0 : PH) : Ctv 148 l yX0_enterParts cX0_enterParts 5 none (rmOf 1 23) (fun E => [.ref (E.2.1 29), .int a1]) s0 (fX0_enterParts n a1 s0) := by
  refine Ctv.of (by decide) rfl (lv := fun E => [(0, .ref (E.2.1 29)), (1, .int a1)]) (fun _ => Nat.le_of_ble_eq_true rfl) (fun _ => rfl) (fun Γ hΓ _ C => ?_)
  subst hΓ
  unfold fX0_enterParts
  refine rf_iconst C (v := (nI 0)) dX0_enterParts_0 rfl ?_
  refine rf_istore_n C (fun v1 => [(2, .int v1), (0, .ref ((gE Γ).2.1 29)), (1, .int a1)]) dX0_enterParts_1 rfl (by decide) (fun _ => rfl) (fun v1 => ?_)
  refine rf_sub [1, 2, 0] rfl ?_
  refine rf_loo2 (fun _ _ => True) (fun _ s3 => s3) (fun v2 s3 => [(0, .ref ((gE Γ).2.1 29)), (1, .int a1), (2, .int v2)]) (fun recrec4 hrec4 v2 s3 _ => ?_) n v1 s0 trivial
  refine rf_iload_n C dX0_enterParts_2 rfl 2 rfl ?_
  refine rf_iload_n C dX0_enterParts_3 rfl 1 rfl ?_
  refine rf_icmp_gt C 71 dX0_enterParts_4 (by decide) (fun _ => ?_) (fun _ => ?_)
  · exact rf_vret C dX0_enterParts_71
  refine rf_iconst C (v := (nI 0)) dX0_enterParts_7 rfl ?_
  refine rf_istore_n C (fun v5 => [(3, .int v5), (0, .ref ((gE Γ).2.1 29)), (1, .int a1), (2, .int v2)]) dX0_enterParts_8 rfl (by decide) (fun _ => rfl) (fun v5 => ?_)
  refine rf_aload_n C dX0_enterParts_9 rfl 1 rfl ?_
  refine rf_get C (v := .ref ((gE Γ).2.1 (cId 1 0))) cfX0 flX0_16 (by decide) oX0 rfl dX0_enterParts_10 ?_
  refine rf_iload_n C dX0_enterParts_13 rfl 3 rfl ?_
  refine rf_iload_n C dX0_enterParts_14 rfl 3 rfl ?_
  refine rf_iload_n C dX0_enterParts_15 rfl 0 rfl ?_
  refine rf_callVv C (rmc := rmOf 0 0) [.int v2, .int v2, .int v5] (by decide) (mX1_setEntry (gL Γ) 1 v2 v2 v5 s3 (by decide)) mfX1_setEntry mvX1_setEntry mlX0_76 rfl (oX1 (by decide)) rfl rfl rfl (Nat.le_of_ble_eq_true rfl) ⟨Nat.le_of_ble_eq_true rfl, Nat.le_of_ble_eq_true rfl⟩ dX0_enterParts_16 (fun s6 => ?_)
  refine rf_iload_n C dX0_enterParts_19 rfl 3 rfl ?_
  refine rf_iconst C (v := (nI 1)) dX0_enterParts_20 rfl ?_
  refine rf_iadd C dX0_enterParts_21 ?_
  refine rf_istore C (fun v7 => [(4, .int v7), (3, .int v5), (0, .ref ((gE Γ).2.1 29)), (1, .int a1), (2, .int v2)]) dX0_enterParts_22 (by decide) (fun _ => rfl) (fun v7 => ?_)
  refine rf_sub [2, 3, 4, 1, 0] rfl ?_
  refine rf_loo3 (fun _ _ _ => True) (fun _ _ s10 => s10) (fun v8 v9 s10 => [(0, .ref ((gE Γ).2.1 29)), (1, .int a1), (2, .int v2), (3, .int v8), (4, .int v9)]) (fun recrec11 hrec11 v8 v9 s10 _ => ?_) n v5 v7 s6 trivial
  refine rf_iload C dX0_enterParts_24 4 rfl ?_
  refine rf_iload_n C dX0_enterParts_26 rfl 1 rfl ?_
  refine rf_icmp_gt C 65 dX0_enterParts_27 (by decide) (fun _ => ?_) (fun _ => ?_)
  · refine rf_iinc C (fun v12 => [(2, .int v12), (0, .ref ((gE Γ).2.1 29)), (1, .int a1), (3, .int v8), (4, .int v9)]) dX0_enterParts_65 2 rfl rfl (by decide) (fun _ => rfl) (fun v12 => ?_)
    refine rf_goto C 2 dX0_enterParts_68 (by decide) ?_
    exact rf_sub [1, 2, 0] rfl (hrec4 v12 s10 trivial)
  refine rf_iconst C (v := (nI 5)) dX0_enterParts_30 rfl ?_
  refine rf_iload_n C dX0_enterParts_31 rfl 3 rfl ?_
  refine rf_imul C dX0_enterParts_32 ?_
  refine rf_aload_n C dX0_enterParts_33 rfl 0 rfl ?_
  refine rf_get C (v := .ref ((gE Γ).2.1 (cId 1 0))) cfX0 flX0_16 (by decide) oX0 rfl dX0_enterParts_34 ?_
  refine rf_iload C dX0_enterParts_37 4 rfl ?_
  refine rf_iconst C (v := (nI 1)) dX0_enterParts_39 rfl ?_
  refine rf_isub C dX0_enterParts_40 ?_
  refine rf_callVi C (rmc := rmOf 0 0) [.int (v9 - (nI 1))] (by decide) (mX1_letter (gL Γ) 1 (v9 - (nI 1)) s10 (by decide)) mfX1_letter mvX1_letter mlX0_69 rfl (oX1 (by decide)) rfl rfl rfl (Nat.le_of_ble_eq_true rfl) ⟨Nat.le_of_ble_eq_true rfl, Nat.le_of_ble_eq_true rfl⟩ dX0_enterParts_41 (fun r14 s13 => ?_)
  refine rf_iadd C dX0_enterParts_44 ?_
  refine rf_iconst C (v := (nI 1)) dX0_enterParts_45 rfl ?_
  refine rf_iadd C dX0_enterParts_46 ?_
  refine rf_istore_n C (fun v15 => [(3, .int v15), (0, .ref ((gE Γ).2.1 29)), (1, .int a1), (2, .int v2), (4, .int v9)]) dX0_enterParts_47 rfl (by decide) (fun _ => rfl) (fun v15 => ?_)
  refine rf_aload_n C dX0_enterParts_48 rfl 1 rfl ?_
  refine rf_get C (v := .ref ((gE Γ).2.1 (cId 1 0))) cfX0 flX0_16 (by decide) oX0 rfl dX0_enterParts_49 ?_
  refine rf_iload_n C dX0_enterParts_52 rfl 3 rfl ?_
  refine rf_iload C dX0_enterParts_53 4 rfl ?_
  refine rf_iload_n C dX0_enterParts_55 rfl 0 rfl ?_
  refine rf_callVv C (rmc := rmOf 0 0) [.int v2, .int v9, .int v15] (by decide) (mX1_setEntry (gL Γ) 1 v2 v9 v15 s13 (by decide)) mfX1_setEntry mvX1_setEntry mlX0_76 rfl (oX1 (by decide)) rfl rfl rfl (Nat.le_of_ble_eq_true rfl) ⟨Nat.le_of_ble_eq_true rfl, Nat.le_of_ble_eq_true rfl⟩ dX0_enterParts_56 (fun s16 => ?_)
  refine rf_iinc C (fun v17 => [(4, .int v17), (3, .int v15), (0, .ref ((gE Γ).2.1 29)), (1, .int a1), (2, .int v2)]) dX0_enterParts_59 4 rfl rfl (by decide) (fun _ => rfl) (fun v17 => ?_)
  refine rf_goto C 24 dX0_enterParts_62 (by decide) ?_
  exact rf_sub [2, 3, 4, 1, 0] rfl (hrec11 v15 v17 s16 trivial)

def fX0_number (n : Nat) (a1 : Int32) (s0 : PH) : Option (Int32 × PH) :=
(lt (nI 0) fun (v1 : Int32) =>
(lt (nI 0) fun (v2 : Int32) =>
(loo3 (fun (recrec6 : Int32 → Int32 → PH → Option (Int32 × PH)) (v3 : Int32) (v4 : Int32) (s5 : PH) =>
(if a1 ≤ v4 then
(some (v3, s5))
else
(bd (fX1_letter 1 v4 s5) fun (r8 : Int32) (s7 : PH) =>
(lt ((((nI 6) * v3) + r8) + (nI 1)) fun (v9 : Int32) =>
(lt (v4 + (nI 1)) fun (v10 : Int32) =>
(recrec6 v9 v10 s7)))))) n v1 v2 s0)))
set_option maxRecDepth 20000 in
set_option maxHeartbeats 2000000 in
theorem mX0_number (l : Launch) (n : Nat) (a1 : Int32) (s0 : PH) : Cti 148 l yX0_number cX0_number 4 (some .int) (rmOf 1 21) (fun E => [.ref (E.2.1 29), .int a1]) s0 (fX0_number n a1 s0) := by
  refine Cti.of (by decide) rfl (lv := fun E => [(0, .ref (E.2.1 29)), (1, .int a1)]) (fun _ => Nat.le_of_ble_eq_true rfl) (fun _ => rfl) (fun Γ hΓ _ C => ?_)
  subst hΓ
  unfold fX0_number
  refine rf_iconst C (v := (nI 0)) dX0_number_0 rfl ?_
  refine rf_istore_n C (fun v1 => [(2, .int v1), (0, .ref ((gE Γ).2.1 29)), (1, .int a1)]) dX0_number_1 rfl (by decide) (fun _ => rfl) (fun v1 => ?_)
  refine rf_iconst C (v := (nI 0)) dX0_number_2 rfl ?_
  refine rf_istore_n C (fun v2 => [(3, .int v2), (2, .int v1), (0, .ref ((gE Γ).2.1 29)), (1, .int a1)]) dX0_number_3 rfl (by decide) (fun _ => rfl) (fun v2 => ?_)
  refine rf_sub [2, 3, 1, 0] rfl ?_
  refine rf_loo3 (fun _ _ _ => True) (fun _ _ s5 => s5) (fun v3 v4 s5 => [(0, .ref ((gE Γ).2.1 29)), (1, .int a1), (2, .int v3), (3, .int v4)]) (fun recrec6 hrec6 v3 v4 s5 _ => ?_) n v1 v2 s0 trivial
  refine rf_iload_n C dX0_number_4 rfl 3 rfl ?_
  refine rf_iload_n C dX0_number_5 rfl 1 rfl ?_
  refine rf_icmp_ge C 31 dX0_number_6 (by decide) (fun _ => ?_) (fun _ => ?_)
  · refine rf_iload_n C dX0_number_31 rfl 2 rfl ?_
    exact rf_iret C dX0_number_32
  refine rf_bipush C (v := (nI 6)) dX0_number_9 rfl ?_
  refine rf_iload_n C dX0_number_11 rfl 2 rfl ?_
  refine rf_imul C dX0_number_12 ?_
  refine rf_aload_n C dX0_number_13 rfl 0 rfl ?_
  refine rf_get C (v := .ref ((gE Γ).2.1 (cId 1 0))) cfX0 flX0_16 (by decide) oX0 rfl dX0_number_14 ?_
  refine rf_iload_n C dX0_number_17 rfl 3 rfl ?_
  refine rf_callVi C (rmc := rmOf 0 0) [.int v4] (by decide) (mX1_letter (gL Γ) 1 v4 s5 (by decide)) mfX1_letter mvX1_letter mlX0_69 rfl (oX1 (by decide)) rfl rfl rfl (Nat.le_of_ble_eq_true rfl) ⟨Nat.le_of_ble_eq_true rfl, Nat.le_of_ble_eq_true rfl⟩ dX0_number_18 (fun r8 s7 => ?_)
  refine rf_iadd C dX0_number_21 ?_
  refine rf_iconst C (v := (nI 1)) dX0_number_22 rfl ?_
  refine rf_iadd C dX0_number_23 ?_
  refine rf_istore_n C (fun v9 => [(2, .int v9), (0, .ref ((gE Γ).2.1 29)), (1, .int a1), (3, .int v4)]) dX0_number_24 rfl (by decide) (fun _ => rfl) (fun v9 => ?_)
  refine rf_iinc C (fun v10 => [(3, .int v10), (2, .int v9), (0, .ref ((gE Γ).2.1 29)), (1, .int a1)]) dX0_number_25 3 rfl rfl (by decide) (fun _ => rfl) (fun v10 => ?_)
  refine rf_goto C 4 dX0_number_28 (by decide) ?_
  exact rf_sub [2, 3, 1, 0] rfl (hrec6 v9 v10 s7 trivial)

def fX0_search (n : Nat) (a1 : Nat) (s0 : PH) : Option (Int32 × PH) :=
(lt (nI 0) fun (v1 : Int32) =>
(loo2 (fun (recrec4 : Int32 → PH → Option (Int32 × PH)) (v2 : Int32) (s3 : PH) =>
(if (nI 781) ≤ v2 then
(some ((-9 : Int32), s3))
else
(bd (fX0_spell n v2 s3) fun (r6 : Int32) (s5 : PH) =>
(lt r6 fun (v7 : Int32) =>
(bd (fX9_letters s5) fun (r9 : Int32) (s8 : PH) =>
(bd (fX0_isOver n r9 v7 s8) fun (r11 : Int32) (s10 : PH) =>
(jn (fun (s12 : PH) =>
(lt (v2 + (nI 1)) fun (v14 : Int32) =>
(recrec4 v14 s12))) (fun (j13 : PH → Option (Int32 × PH)) =>
(if r11 = 0 then
(j13 s10)
else
(bd (fX0_enterParts n v7 s10) fun _ (s15 : PH) =>
(bd (fX1_fill n 1 a1 (nI 0) v7 s15) fun _ (s16 : PH) =>
(bd (fX4_start a1 s16) fun (r18 : Int32) (s17 : PH) =>
(bd (fX1_count 1 r18 (nI 0) v7 s17) fun (r20 : Int32) (s19 : PH) =>
(if r20 ≤ (nI 1) then
(j13 s19)
else
(bd (fX0_number n v7 s19) fun (r22 : Int32) (s21 : PH) =>
(some (r22, s21))))))))))))))))) n v1 s0))
set_option maxRecDepth 20000 in
set_option maxHeartbeats 2000000 in
theorem mX0_search (l : Launch) (n : Nat) (a1 : Nat) (s0 : PH) (ha1 : a1 < 6) : Cti 148 l yX0_search cX0_search 5 (some .int) (rmOf 4 114) (fun E => [.ref (E.2.1 29), .ref (E.2.1 (gId a1 0)), .ref (E.2.1 7)]) s0 (fX0_search n a1 s0) := by
  refine Cti.of (by decide) rfl (lv := fun E => [(0, .ref (E.2.1 29)), (1, .ref (E.2.1 (gId a1 0))), (2, .ref (E.2.1 7))]) (fun _ => Nat.le_of_ble_eq_true rfl) (fun _ => rfl) (fun Γ hΓ _ C => ?_)
  subst hΓ
  unfold fX0_search
  refine rf_iconst C (v := (nI 0)) dX0_search_0 rfl ?_
  refine rf_istore_n C (fun v1 => [(3, .int v1), (0, .ref ((gE Γ).2.1 29)), (1, .ref ((gE Γ).2.1 (gId a1 0))), (2, .ref ((gE Γ).2.1 7))]) dX0_search_1 rfl (by decide) (fun _ => rfl) (fun v1 => ?_)
  refine rf_sub [1, 2, 3, 0] rfl ?_
  refine rf_loo2 (fun _ _ => True) (fun _ s3 => s3) (fun v2 s3 => [(0, .ref ((gE Γ).2.1 29)), (1, .ref ((gE Γ).2.1 (gId a1 0))), (2, .ref ((gE Γ).2.1 7)), (3, .int v2)]) (fun recrec4 hrec4 v2 s3 _ => ?_) n v1 s0 trivial
  refine rf_iload_n C dX0_search_2 rfl 3 rfl ?_
  refine rf_sipush C (v := (nI 781)) dX0_search_3 rfl ?_
  refine rf_icmp_ge C 78 dX0_search_6 (by decide) (fun _ => ?_) (fun _ => ?_)
  · refine rf_bipush C (v := (-9 : Int32)) dX0_search_78 rfl ?_
    exact rf_iret C dX0_search_80
  refine rf_aload_n C dX0_search_9 rfl 0 rfl ?_
  refine rf_iload_n C dX0_search_10 rfl 3 rfl ?_
  refine rf_callVi C (rmc := rmOf 1 22) [.int v2] (by decide) (mX0_spell (gL Γ) n v2 s3) mfX0_spell mvX0_spell mlX0_32 rfl oX0 rfl rfl rfl (Nat.le_of_ble_eq_true rfl) ⟨Nat.le_of_ble_eq_true rfl, Nat.le_of_ble_eq_true rfl⟩ dX0_search_11 (fun r6 s5 => ?_)
  refine rf_istore C (fun v7 => [(4, .int v7), (0, .ref ((gE Γ).2.1 29)), (1, .ref ((gE Γ).2.1 (gId a1 0))), (2, .ref ((gE Γ).2.1 7)), (3, .int v2)]) dX0_search_14 (by decide) (fun _ => rfl) (fun v7 => ?_)
  refine rf_aload_n C dX0_search_16 rfl 1 rfl ?_
  refine rf_aload_n C dX0_search_17 rfl 3 rfl ?_
  refine rf_callVi C (rmc := rmOf 0 0) [] (by decide) (mX9_letters (gL Γ) s5) mfX9_letters mvX9_letters mlX0_36 rfl oX9 rfl rfl rfl (Nat.le_of_ble_eq_true rfl) ⟨Nat.le_of_ble_eq_true rfl, Nat.le_of_ble_eq_true rfl⟩ dX0_search_18 (fun r9 s8 => ?_)
  refine rf_iload C dX0_search_21 0 rfl ?_
  refine rf_callVi C (rmc := rmOf 1 21) [.int r9, .int v7] (by decide) (mX0_isOver (gL Γ) n r9 v7 s8) mfX0_isOver mvX0_isOver mlX0_42 rfl oX0 rfl rfl rfl (Nat.le_of_ble_eq_true rfl) ⟨Nat.le_of_ble_eq_true rfl, Nat.le_of_ble_eq_true rfl⟩ dX0_search_23 (fun r11 s10 => ?_)
  refine rf_jn1 (fun _ => True) (fun  s12 => s12) (fun s12 => [(0, .ref ((gE Γ).2.1 29)), (1, .ref ((gE Γ).2.1 (gId a1 0))), (2, .ref ((gE Γ).2.1 7)), (3, .int v2)]) (fun s12 => []) 72 (fun s12 _ => ?_) (fun j13 hj13 => ?_)
  · refine rf_iinc C (fun v14 => [(3, .int v14), (0, .ref ((gE Γ).2.1 29)), (1, .ref ((gE Γ).2.1 (gId a1 0))), (2, .ref ((gE Γ).2.1 7))]) dX0_search_72 3 rfl rfl (by decide) (fun _ => rfl) (fun v14 => ?_)
    refine rf_goto C 2 dX0_search_75 (by decide) ?_
    exact rf_sub [1, 2, 3, 0] rfl (hrec4 v14 s12 trivial)
  refine rf_if_eq C 72 dX0_search_26 (by decide) (fun _ => ?_) (fun _ => ?_)
  · exact rf_sub [1, 2, 3, 4] rfl (hj13 s10 trivial)
  refine rf_aload_n C dX0_search_29 rfl 1 rfl ?_
  refine rf_iload C dX0_search_30 0 rfl ?_
  refine rf_callVv C (rmc := rmOf 1 23) [.int v7] (by decide) (mX0_enterParts (gL Γ) n v7 s10) mfX0_enterParts mvX0_enterParts mlX0_46 rfl oX0 rfl rfl rfl (Nat.le_of_ble_eq_true rfl) ⟨Nat.le_of_ble_eq_true rfl, Nat.le_of_ble_eq_true rfl⟩ dX0_search_32 (fun s15 => ?_)
  refine rf_aload_n C dX0_search_35 rfl 1 rfl ?_
  refine rf_get C (v := .ref ((gE Γ).2.1 (cId 1 0))) cfX0 flX0_16 (by decide) oX0 rfl dX0_search_36 ?_
  refine rf_aload_n C dX0_search_39 rfl 2 rfl ?_
  refine rf_aload_n C dX0_search_40 rfl 3 rfl ?_
  refine rf_iconst C (v := (nI 0)) dX0_search_41 rfl ?_
  refine rf_iload C dX0_search_42 0 rfl ?_
  refine rf_callVv C (rmc := rmOf 3 84) [.ref ((gE Γ).2.1 (gId a1 0)), .ref ((gE Γ).2.1 7), .int (nI 0), .int v7] (by decide) (mX1_fill (gL Γ) n 1 a1 (nI 0) v7 s15 (by decide) ha1) mfX1_fill mvX1_fill mlX0_49 rfl (oX1 (by decide)) rfl rfl rfl (Nat.le_of_ble_eq_true rfl) ⟨Nat.le_of_ble_eq_true rfl, Nat.le_of_ble_eq_true rfl⟩ dX0_search_44 (fun s16 => ?_)
  refine rf_aload_n C dX0_search_47 rfl 1 rfl ?_
  refine rf_get C (v := .ref ((gE Γ).2.1 (cId 1 0))) cfX0 flX0_16 (by decide) oX0 rfl dX0_search_48 ?_
  refine rf_aload_n C dX0_search_51 rfl 2 rfl ?_
  refine rf_callVi C (rmc := rmOf 0 0) [] (by decide) (mX4_start (gL Γ) a1 s16 ha1) mfX4_start mvX4_start mlX0_53 rfl (oX4 ha1) rfl rfl rfl (Nat.le_of_ble_eq_true rfl) ⟨Nat.le_of_ble_eq_true rfl, Nat.le_of_ble_eq_true rfl⟩ dX0_search_52 (fun r18 s17 => ?_)
  refine rf_iconst C (v := (nI 0)) dX0_search_55 rfl ?_
  refine rf_iload C dX0_search_56 0 rfl ?_
  refine rf_callVi C (rmc := rmOf 0 0) [.int r18, .int (nI 0), .int v7] (by decide) (mX1_count (gL Γ) 1 r18 (nI 0) v7 s17 (by decide)) mfX1_count mvX1_count mlX0_58 rfl (oX1 (by decide)) rfl rfl rfl (Nat.le_of_ble_eq_true rfl) ⟨Nat.le_of_ble_eq_true rfl, Nat.le_of_ble_eq_true rfl⟩ dX0_search_58 (fun r20 s19 => ?_)
  refine rf_iconst C (v := (nI 1)) dX0_search_61 rfl ?_
  refine rf_icmp_le C 72 dX0_search_62 (by decide) (fun _ => ?_) (fun _ => ?_)
  · exact rf_sub [1, 2, 3, 4] rfl (hj13 s19 trivial)
  refine rf_aload_n C dX0_search_65 rfl 1 rfl ?_
  refine rf_iload C dX0_search_66 0 rfl ?_
  refine rf_callVi C (rmc := rmOf 1 21) [.int v7] (by decide) (mX0_number (gL Γ) n v7 s19) mfX0_number mvX0_number mlX0_62 rfl oX0 rfl rfl rfl (Nat.le_of_ble_eq_true rfl) ⟨Nat.le_of_ble_eq_true rfl, Nat.le_of_ble_eq_true rfl⟩ dX0_search_68 (fun r22 s21 => ?_)
  exact rf_iret C dX0_search_71

def fX0_shortest (n : Nat) (a1 : Nat) (s0 : PH) : Option (Int32 × PH) :=
(if (s0.1 29 1) = 0 then
(bd (fX0_search n a1 s0) fun (r2 : Int32) (s1 : PH) =>
(lt (si s1 29 2 r2) fun (s3 : PH) =>
(lt (si s3 29 1 (nI 1)) fun (s4 : PH) =>
(some ((s4.1 29 2), s4)))))
else
(some ((s0.1 29 2), s0)))
set_option maxRecDepth 20000 in
set_option maxHeartbeats 2000000 in
theorem mX0_shortest (l : Launch) (n : Nat) (a1 : Nat) (s0 : PH) (ha1 : a1 < 6) : Cti 148 l yX0_shortest cX0_shortest 3 (some .int) (rmOf 5 138) (fun E => [.ref (E.2.1 29), .ref (E.2.1 (gId a1 0)), .ref (E.2.1 7)]) s0 (fX0_shortest n a1 s0) := by
  refine Cti.of (by decide) rfl (lv := fun E => [(0, .ref (E.2.1 29)), (1, .ref (E.2.1 (gId a1 0))), (2, .ref (E.2.1 7))]) (fun _ => Nat.le_of_ble_eq_true rfl) (fun _ => rfl) (fun Γ hΓ _ C => ?_)
  subst hΓ
  unfold fX0_shortest
  refine rf_aload_n C dX0_shortest_0 rfl 0 rfl ?_
  refine rf_get C (v := .int (s0.1 29 1)) cfX0 flX0_20 (by decide) oX0 rfl dX0_shortest_1 ?_
  refine rf_if_ne C 22 dX0_shortest_4 (by decide) (fun _ => ?_) (fun _ => ?_)
  · refine rf_aload_n C dX0_shortest_22 rfl 0 rfl ?_
    refine rf_get C (v := .int (s0.1 29 2)) cfX0 flX0_24 (by decide) oX0 rfl dX0_shortest_23 ?_
    exact rf_iret C dX0_shortest_26
  refine rf_aload_n C dX0_shortest_7 rfl 0 rfl ?_
  refine rf_aload_n C dX0_shortest_8 rfl 0 rfl ?_
  refine rf_aload_n C dX0_shortest_9 rfl 1 rfl ?_
  refine rf_aload_n C dX0_shortest_10 rfl 2 rfl ?_
  refine rf_callVi C (rmc := rmOf 4 114) [.ref ((gE Γ).2.1 (gId a1 0)), .ref ((gE Γ).2.1 7)] (by decide) (mX0_search (gL Γ) n a1 s0 ha1) mfX0_search mvX0_search mlX0_28 rfl oX0 rfl rfl rfl (Nat.le_of_ble_eq_true rfl) ⟨Nat.le_of_ble_eq_true rfl, Nat.le_of_ble_eq_true rfl⟩ dX0_shortest_11 (fun r2 s1 => ?_)
  refine rf_puti C cfX0 flX0_24 (by decide) rfl oX0 (fty := .int) rfl rfl rfl (fun _ _ _ _ => Nat.le_of_ble_eq_true rfl) (fun _ _ _ _ => rfl) dX0_shortest_14 (fun s3 => ?_)
  refine rf_aload_n C dX0_shortest_17 rfl 0 rfl ?_
  refine rf_iconst C (v := (nI 1)) dX0_shortest_18 rfl ?_
  refine rf_puti C cfX0 flX0_20 (by decide) rfl oX0 (fty := .boolean) rfl rfl rfl (fun _ _ _ _ => Nat.le_of_ble_eq_true rfl) (fun _ _ _ _ => rfl) dX0_shortest_19 (fun s4 => ?_)
  refine rf_aload_n C dX0_shortest_22 rfl 0 rfl ?_
  refine rf_get C (v := .int (s4.1 29 2)) cfX0 flX0_24 (by decide) oX0 rfl dX0_shortest_23 ?_
  exact rf_iret C dX0_shortest_26

def fX11_ambiguous (n : Nat) (s0 : PH) : Option (Int32 × PH) :=
(bd (fX9_cyclesReachably s0) fun (r2 : Int32) (s1 : PH) =>
(if r2 = 0 then
(lt (s1.2.2 0 8) fun (g3 : Nat) =>
(bd (fX0_shortest n g3 s1) fun (r5 : Int32) (s4 : PH) =>
(some (r5, s4))))
else
(some ((-2 : Int32), s1))))
set_option maxRecDepth 20000 in
set_option maxHeartbeats 2000000 in
theorem mX11_ambiguous (l : Launch) (n : Nat) (s0 : PH) : Cti 148 l yX11_ambiguous cX11_ambiguous 1 (some .int) (rmOf 6 160) (fun E => [.ref (E.2.1 0)]) s0 (fX11_ambiguous n s0) := by
  refine Cti.of (by decide) rfl (lv := fun E => [(0, .ref (E.2.1 0))]) (fun _ => Nat.le_of_ble_eq_true rfl) (fun _ => rfl) (fun Γ hΓ _ C => ?_)
  subst hΓ
  unfold fX11_ambiguous
  refine rf_aload_n C dX11_ambiguous_0 rfl 0 rfl ?_
  refine rf_get C (v := .ref ((gE Γ).2.1 7)) cfX11 flX11_33 (by decide) oX11 rfl dX11_ambiguous_1 ?_
  refine rf_callVi C (rmc := rmOf 0 0) [] (by decide) (mX9_cyclesReachably (gL Γ) s0) mfX9_cyclesReachably mvX9_cyclesReachably mlX11_220 rfl oX9 rfl rfl rfl (Nat.le_of_ble_eq_true rfl) ⟨Nat.le_of_ble_eq_true rfl, Nat.le_of_ble_eq_true rfl⟩ dX11_ambiguous_4 (fun r2 s1 => ?_)
  refine rf_if_eq C 13 dX11_ambiguous_7 (by decide) (fun _ => ?_) (fun _ => ?_)
  · refine rf_aload_n C dX11_ambiguous_13 rfl 0 rfl ?_
    refine rf_get C (v := .ref ((gE Γ).2.1 29)) cfX11 flX11_61 (by decide) oX11 rfl dX11_ambiguous_14 ?_
    refine rf_aload_n C dX11_ambiguous_17 rfl 0 rfl ?_
    refine rf_getG C cfX11 flX11_68 (by decide) oX11 (fun _ _ _ _ => rfl) dX11_ambiguous_18 (fun g3 hg3 => ?_)
    refine rf_aload_n C dX11_ambiguous_21 rfl 0 rfl ?_
    refine rf_get C (v := .ref ((gE Γ).2.1 7)) cfX11 flX11_33 (by decide) oX11 rfl dX11_ambiguous_22 ?_
    refine rf_callVi C (rmc := rmOf 5 138) [.ref ((gE Γ).2.1 (gId g3 0)), .ref ((gE Γ).2.1 7)] (by decide) (mX0_shortest (gL Γ) n g3 s1 hg3) mfX0_shortest mvX0_shortest mlX11_233 rfl oX0 rfl rfl rfl (Nat.le_of_ble_eq_true rfl) ⟨Nat.le_of_ble_eq_true rfl, Nat.le_of_ble_eq_true rfl⟩ dX11_ambiguous_25 (fun r5 s4 => ?_)
    exact rf_iret C dX11_ambiguous_28
  refine rf_bipush C (v := (-2 : Int32)) dX11_ambiguous_10 rfl ?_
  exact rf_iret C dX11_ambiguous_12

def fX5_count (s0 : PH) : Option (Int32 × PH) :=
(some ((s0.1 5 1), s0))
set_option maxRecDepth 20000 in
set_option maxHeartbeats 2000000 in
theorem mX5_count (l : Launch) (s0 : PH) : Cti 148 l yX5_count cX5_count 1 (some .int) (rmOf 0 0) (fun E => [.ref (E.2.1 5)]) s0 (fX5_count s0) := by
  refine Cti.of (by decide) rfl (lv := fun E => [(0, .ref (E.2.1 5))]) (fun _ => Nat.le_of_ble_eq_true rfl) (fun _ => rfl) (fun Γ hΓ _ C => ?_)
  subst hΓ
  unfold fX5_count
  refine rf_aload_n C dX5_count_0 rfl 0 rfl ?_
  refine rf_get C (v := .int (s0.1 5 1)) cfX5 flX5_17 (by decide) oX5 rfl dX5_count_1 ?_
  exact rf_iret C dX5_count_4

def fX11_told (a1 : Int32) (s0 : PH) : Option (Int32 × PH) :=
(if a1 = (nI 0) then
(lt (s0.2.2 0 8) fun (g2 : Nat) =>
(bd (fX4_count g2 s0) fun (r4 : Int32) (s3 : PH) =>
(some (r4, s3))))
else
(if a1 = (nI 1) then
(lt (s0.2.2 0 8) fun (g6 : Nat) =>
(bd (fX4_start g6 s0) fun (r8 : Int32) (s7 : PH) =>
(some (r8, s7))))
else
(if a1 = (nI 2) then
(lt (s0.2.2 0 8) fun (g10 : Nat) =>
(bd (fX4_defined g10 s0) fun (r12 : Int32) (s11 : PH) =>
(some (r12, s11))))
else
(if a1 = (nI 3) then
(bd (fX8_size s0) fun (r15 : Int32) (s14 : PH) =>
(some (r15, s14)))
else
(if a1 = (nI 4) then
(bd (fX5_count s0) fun (r18 : Int32) (s17 : PH) =>
(some (r18, s17)))
else
(if a1 = (nI 5) then
(bd (fX6_count s0) fun (r21 : Int32) (s20 : PH) =>
(some (r21, s20)))
else
(some ((-1 : Int32), s0))))))))
set_option maxRecDepth 20000 in
set_option maxHeartbeats 2000000 in
theorem mX11_told (l : Launch) (a1 : Int32) (s0 : PH) : Cti 148 l yX11_told cX11_told 2 (some .int) (rmOf 1 20) (fun E => [.ref (E.2.1 0), .int a1]) s0 (fX11_told a1 s0) := by
  refine Cti.of (by decide) rfl (lv := fun E => [(0, .ref (E.2.1 0)), (1, .int a1)]) (fun _ => Nat.le_of_ble_eq_true rfl) (fun _ => rfl) (fun Γ hΓ _ C => ?_)
  subst hΓ
  unfold fX11_told
  refine rf_iload_n C dX11_told_0 rfl 1 rfl ?_
  refine rf_ite (fun hk1 => ?_) (fun hk1 => ?_)
  · refine rf_swIn C 40 dX11_told_1 (by rw [hk1]; decide) (by rw [hk1]; decide) (by rw [hk1]; rfl) (by decide) ?_
    refine rf_aload_n C dX11_told_40 rfl 0 rfl ?_
    refine rf_getG C cfX11 flX11_68 (by decide) oX11 (fun _ _ _ _ => rfl) dX11_told_41 (fun g2 hg2 => ?_)
    refine rf_callVi C (rmc := rmOf 0 0) [] (by decide) (mX4_count (gL Γ) g2 s0 hg2) mfX4_count mvX4_count mlX11_110 rfl (oX4 hg2) rfl rfl rfl (Nat.le_of_ble_eq_true rfl) ⟨Nat.le_of_ble_eq_true rfl, Nat.le_of_ble_eq_true rfl⟩ dX11_told_44 (fun r4 s3 => ?_)
    exact rf_iret C dX11_told_47
  refine rf_ite (fun hk5 => ?_) (fun hk5 => ?_)
  · refine rf_swIn C 48 dX11_told_1 (by rw [hk5]; decide) (by rw [hk5]; decide) (by rw [hk5]; rfl) (by decide) ?_
    refine rf_aload_n C dX11_told_48 rfl 0 rfl ?_
    refine rf_getG C cfX11 flX11_68 (by decide) oX11 (fun _ _ _ _ => rfl) dX11_told_49 (fun g6 hg6 => ?_)
    refine rf_callVi C (rmc := rmOf 0 0) [] (by decide) (mX4_start (gL Γ) g6 s0 hg6) mfX4_start mvX4_start mlX11_237 rfl (oX4 hg6) rfl rfl rfl (Nat.le_of_ble_eq_true rfl) ⟨Nat.le_of_ble_eq_true rfl, Nat.le_of_ble_eq_true rfl⟩ dX11_told_52 (fun r8 s7 => ?_)
    exact rf_iret C dX11_told_55
  refine rf_ite (fun hk9 => ?_) (fun hk9 => ?_)
  · refine rf_swIn C 56 dX11_told_1 (by rw [hk9]; decide) (by rw [hk9]; decide) (by rw [hk9]; rfl) (by decide) ?_
    refine rf_aload_n C dX11_told_56 rfl 0 rfl ?_
    refine rf_getG C cfX11 flX11_68 (by decide) oX11 (fun _ _ _ _ => rfl) dX11_told_57 (fun g10 hg10 => ?_)
    refine rf_callVi C (rmc := rmOf 0 0) [] (by decide) (mX4_defined (gL Γ) g10 s0 hg10) mfX4_defined mvX4_defined mlX11_127 rfl (oX4 hg10) rfl rfl rfl (Nat.le_of_ble_eq_true rfl) ⟨Nat.le_of_ble_eq_true rfl, Nat.le_of_ble_eq_true rfl⟩ dX11_told_60 (fun r12 s11 => ?_)
    exact rf_iret C dX11_told_63
  refine rf_ite (fun hk13 => ?_) (fun hk13 => ?_)
  · refine rf_swIn C 64 dX11_told_1 (by rw [hk13]; decide) (by rw [hk13]; decide) (by rw [hk13]; rfl) (by decide) ?_
    refine rf_aload_n C dX11_told_64 rfl 0 rfl ?_
    refine rf_get C (v := .ref ((gE Γ).2.1 1)) cfX11 flX11_10 (by decide) oX11 rfl dX11_told_65 ?_
    refine rf_callVi C (rmc := rmOf 0 0) [] (by decide) (mX8_size (gL Γ) s0) mfX8_size mvX8_size mlX11_79 rfl oX8 rfl rfl rfl (Nat.le_of_ble_eq_true rfl) ⟨Nat.le_of_ble_eq_true rfl, Nat.le_of_ble_eq_true rfl⟩ dX11_told_68 (fun r15 s14 => ?_)
    exact rf_iret C dX11_told_71
  refine rf_ite (fun hk16 => ?_) (fun hk16 => ?_)
  · refine rf_swIn C 72 dX11_told_1 (by rw [hk16]; decide) (by rw [hk16]; decide) (by rw [hk16]; rfl) (by decide) ?_
    refine rf_aload_n C dX11_told_72 rfl 0 rfl ?_
    refine rf_get C (v := .ref ((gE Γ).2.1 5)) cfX11 flX11_26 (by decide) oX11 rfl dX11_told_73 ?_
    refine rf_callVi C (rmc := rmOf 0 0) [] (by decide) (mX5_count (gL Γ) s0) mfX5_count mvX5_count mlX11_240 rfl oX5 rfl rfl rfl (Nat.le_of_ble_eq_true rfl) ⟨Nat.le_of_ble_eq_true rfl, Nat.le_of_ble_eq_true rfl⟩ dX11_told_76 (fun r18 s17 => ?_)
    exact rf_iret C dX11_told_79
  refine rf_ite (fun hk19 => ?_) (fun hk19 => ?_)
  · refine rf_swIn C 80 dX11_told_1 (by rw [hk19]; decide) (by rw [hk19]; decide) (by rw [hk19]; rfl) (by decide) ?_
    refine rf_aload_n C dX11_told_80 rfl 0 rfl ?_
    refine rf_get C (v := .ref ((gE Γ).2.1 21)) cfX11 flX11_47 (by decide) oX11 rfl dX11_told_81 ?_
    refine rf_callVi C (rmc := rmOf 0 0) [] (by decide) (mX6_count (gL Γ) s0) mfX6_count mvX6_count mlX11_216 rfl oX6 rfl rfl rfl (Nat.le_of_ble_eq_true rfl) ⟨Nat.le_of_ble_eq_true rfl, Nat.le_of_ble_eq_true rfl⟩ dX11_told_84 (fun r21 s20 => ?_)
    exact rf_iret C dX11_told_87
  refine rf_swOut C 88 dX11_told_1 (by have nhk1 := lv_neT hk1 (show (nI 0).toInt = 0 from rfl); have nhk5 := lv_neT hk5 (show (nI 1).toInt = 1 from rfl); have nhk9 := lv_neT hk9 (show (nI 2).toInt = 2 from rfl); have nhk13 := lv_neT hk13 (show (nI 3).toInt = 3 from rfl); have nhk16 := lv_neT hk16 (show (nI 4).toInt = 4 from rfl); have nhk19 := lv_neT hk19 (show (nI 5).toInt = 5 from rfl); omega) (by decide) ?_
  refine rf_iconst C (v := (-1 : Int32)) dX11_told_88 rfl ?_
  exact rf_iret C dX11_told_89

def fX5_exchangeLatest (a1 : Nat) (s0 : PH) : Option (Nat × PH) :=
(if (s0.1 5 1) = 0 then
(some (a1, s0))
else
(lt (si s0 5 1 ((s0.1 5 1) - (nI 1))) fun (s1 : PH) =>
(ra 4 (s1.1 5 1) (s1.2.2 6) fun (g2 : Nat) =>
(wa 4 (s1.1 5 1) (lt (sg s1 6 (s1.1 5 1).toNatClampNeg a1) fun (s3 : PH) =>
(some (g2, s3)))))))
set_option maxRecDepth 20000 in
set_option maxHeartbeats 2000000 in
theorem mX5_exchangeLatest (l : Launch) (a1 : Nat) (s0 : PH) (ha1 : a1 < 6) : Ctg 148 l yX5_exchangeLatest cX5_exchangeLatest 3 (some (.object "LookaheadDepths$Grammar")) (rmOf 0 0) (fun E => [.ref (E.2.1 5), .ref (E.2.1 (gId a1 0))]) s0 (fX5_exchangeLatest a1 s0) := by
  refine Ctg.of (by decide) rfl (lv := fun E => [(0, .ref (E.2.1 5)), (1, .ref (E.2.1 (gId a1 0)))]) (fun _ => Nat.le_of_ble_eq_true rfl) (fun _ => rfl) (fun Γ hΓ _ C => ?_)
  subst hΓ
  unfold fX5_exchangeLatest
  refine rf_aload_n C dX5_exchangeLatest_0 rfl 0 rfl ?_
  refine rf_get C (v := .int (s0.1 5 1)) cfX5 flX5_17 (by decide) oX5 rfl dX5_exchangeLatest_1 ?_
  refine rf_if_ne C 9 dX5_exchangeLatest_4 (by decide) (fun _ => ?_) (fun _ => ?_)
  · refine rf_aload_n C dX5_exchangeLatest_9 rfl 0 rfl ?_
    refine rf_dup C dX5_exchangeLatest_10 rfl ?_
    refine rf_get C (v := .int (s0.1 5 1)) cfX5 flX5_17 (by decide) oX5 rfl dX5_exchangeLatest_11 ?_
    refine rf_iconst C (v := (nI 1)) dX5_exchangeLatest_14 rfl ?_
    refine rf_isub C dX5_exchangeLatest_15 ?_
    refine rf_puti C cfX5 flX5_17 (by decide) rfl oX5 (fty := .int) rfl rfl rfl (fun _ _ _ _ => Nat.le_of_ble_eq_true rfl) (fun _ _ _ _ => rfl) dX5_exchangeLatest_16 (fun s1 => ?_)
    refine rf_aload_n C dX5_exchangeLatest_19 rfl 0 rfl ?_
    refine rf_get C (v := .ref ((gE Γ).2.1 6)) cfX5 flX5_11 (by decide) oX5 rfl dX5_exchangeLatest_20 ?_
    refine rf_aload_n C dX5_exchangeLatest_23 rfl 0 rfl ?_
    refine rf_get C (v := .int (s1.1 5 1)) cfX5 flX5_17 (by decide) oX5 rfl dX5_exchangeLatest_24 ?_
    refine rf_aldG C dX5_exchangeLatest_27 (fun g2 hg2 => ?_)
    refine rf_astore_n C [(2, .ref ((gE Γ).2.1 (gId g2 0))), (0, .ref ((gE Γ).2.1 5)), (1, .ref ((gE Γ).2.1 (gId a1 0)))] dX5_exchangeLatest_28 rfl (by decide) rfl ?_
    refine rf_aload_n C dX5_exchangeLatest_29 rfl 1 rfl ?_
    refine rf_get C (v := .ref ((gE Γ).2.1 6)) cfX5 flX5_11 (by decide) oX5 rfl dX5_exchangeLatest_30 ?_
    refine rf_aload_n C dX5_exchangeLatest_33 rfl 1 rfl ?_
    refine rf_get C (v := .int (s1.1 5 1)) cfX5 flX5_17 (by decide) oX5 rfl dX5_exchangeLatest_34 ?_
    refine rf_aload_n C dX5_exchangeLatest_37 rfl 2 rfl ?_
    refine rf_astG C ha1 dX5_exchangeLatest_38 (fun s3 => ?_)
    refine rf_aload_n C dX5_exchangeLatest_39 rfl 0 rfl ?_
    exact rf_gret C hg2 dX5_exchangeLatest_40
  refine rf_aload_n C dX5_exchangeLatest_7 rfl 1 rfl ?_
  exact rf_gret C ha1 dX5_exchangeLatest_8

def fX11_undo (n : Nat) (s0 : PH) : Option (Int32 × PH) :=
(bd (fX5_count s0) fun (r2 : Int32) (s1 : PH) =>
(if r2 = 0 then
(some ((-2 : Int32), s1))
else
(lt (s1.2.2 0 8) fun (g3 : Nat) =>
(bd (fX5_exchangeLatest g3 s1) fun (g5 : Nat) (s4 : PH) =>
(lt (sg s4 0 8 g5) fun (s6 : PH) =>
(bd (fX11_study n s6) fun _ (s7 : PH) =>
(bd (fX5_count s7) fun (r9 : Int32) (s8 : PH) =>
(some (r9, s8)))))))))
set_option maxRecDepth 20000 in
set_option maxHeartbeats 2000000 in
theorem mX11_undo (l : Launch) (n : Nat) (s0 : PH) : Cti 148 l yX11_undo cX11_undo 1 (some .int) (rmOf 7 161) (fun E => [.ref (E.2.1 0)]) s0 (fX11_undo n s0) := by
  refine Cti.of (by decide) rfl (lv := fun E => [(0, .ref (E.2.1 0))]) (fun _ => Nat.le_of_ble_eq_true rfl) (fun _ => rfl) (fun Γ hΓ _ C => ?_)
  subst hΓ
  unfold fX11_undo
  refine rf_aload_n C dX11_undo_0 rfl 0 rfl ?_
  refine rf_get C (v := .ref ((gE Γ).2.1 5)) cfX11 flX11_26 (by decide) oX11 rfl dX11_undo_1 ?_
  refine rf_callVi C (rmc := rmOf 0 0) [] (by decide) (mX5_count (gL Γ) s0) mfX5_count mvX5_count mlX11_240 rfl oX5 rfl rfl rfl (Nat.le_of_ble_eq_true rfl) ⟨Nat.le_of_ble_eq_true rfl, Nat.le_of_ble_eq_true rfl⟩ dX11_undo_4 (fun r2 s1 => ?_)
  refine rf_if_ne C 13 dX11_undo_7 (by decide) (fun _ => ?_) (fun _ => ?_)
  · refine rf_aload_n C dX11_undo_13 rfl 0 rfl ?_
    refine rf_aload_n C dX11_undo_14 rfl 0 rfl ?_
    refine rf_get C (v := .ref ((gE Γ).2.1 5)) cfX11 flX11_26 (by decide) oX11 rfl dX11_undo_15 ?_
    refine rf_aload_n C dX11_undo_18 rfl 0 rfl ?_
    refine rf_getG C cfX11 flX11_68 (by decide) oX11 (fun _ _ _ _ => rfl) dX11_undo_19 (fun g3 hg3 => ?_)
    refine rf_callVg C (rmc := rmOf 0 0) [.ref ((gE Γ).2.1 (gId g3 0))] (by decide) (mX5_exchangeLatest (gL Γ) g3 s1 hg3) mfX5_exchangeLatest mvX5_exchangeLatest mlX11_241 rfl oX5 rfl rfl rfl (Nat.le_of_ble_eq_true rfl) ⟨Nat.le_of_ble_eq_true rfl, Nat.le_of_ble_eq_true rfl⟩ dX11_undo_22 (fun g5 s4 hg5 => ?_)
    refine rf_putG C hg5 cfX11 flX11_68 (by decide) rfl oX11 rfl (fun _ _ _ _ => Nat.le_of_ble_eq_true rfl) (fun _ _ _ _ => rfl) dX11_undo_25 (fun s6 => ?_)
    refine rf_aload_n C dX11_undo_28 rfl 0 rfl ?_
    refine rf_callVv C (rmc := rmOf 6 141) [] (by decide) (mX11_study (gL Γ) n s6) mfX11_study mvX11_study mlX11_76 rfl oX11 rfl rfl rfl (Nat.le_of_ble_eq_true rfl) ⟨Nat.le_of_ble_eq_true rfl, Nat.le_of_ble_eq_true rfl⟩ dX11_undo_29 (fun s7 => ?_)
    refine rf_aload_n C dX11_undo_32 rfl 0 rfl ?_
    refine rf_get C (v := .ref ((gE Γ).2.1 5)) cfX11 flX11_26 (by decide) oX11 rfl dX11_undo_33 ?_
    refine rf_callVi C (rmc := rmOf 0 0) [] (by decide) (mX5_count (gL Γ) s7) mfX5_count mvX5_count mlX11_240 rfl oX5 rfl rfl rfl (Nat.le_of_ble_eq_true rfl) ⟨Nat.le_of_ble_eq_true rfl, Nat.le_of_ble_eq_true rfl⟩ dX11_undo_36 (fun r9 s8 => ?_)
    exact rf_iret C dX11_undo_39
  refine rf_bipush C (v := (-2 : Int32)) dX11_undo_10 rfl ?_
  exact rf_iret C dX11_undo_12

def fX11_mixNonterminal (n : Nat) (a1 : Int64) (a2 : Int32) (s0 : PH) : Option (Int64 × PH) :=
(lt (((31 : Int64) * a1) + a2.toInt64) fun (u1 : Int64) =>
(lt (nI 1) fun (v2 : Int32) =>
(loo3 (fun (recrec6 : Int64 → Int32 → PH → Option (Int64 × PH)) (u3 : Int64) (v4 : Int32) (s5 : PH) =>
(if (nI 7) < v4 then
(bd (fX11_words n (nI 0) a2 (nI 3) s5) fun (r8 : Int32) (s7 : PH) =>
(lt (((31 : Int64) * u3) + r8.toInt64) fun (u9 : Int64) =>
(bd (fX11_words n (nI 1) a2 (nI 3) s7) fun (r11 : Int32) (s10 : PH) =>
(lt (((31 : Int64) * u9) + r11.toInt64) fun (u12 : Int64) =>
(bd (fX11_depth a2 s10) fun (r14 : Int32) (s13 : PH) =>
(lt (((31 : Int64) * u12) + r14.toInt64) fun (u15 : Int64) =>
(bd (fX11_approximate a2 s13) fun (r17 : Int32) (s16 : PH) =>
(lt (((31 : Int64) * u15) + r17.toInt64) fun (u18 : Int64) =>
(bd (fX11_clash n a2 (nI 3) s16) fun (r20 : Int32) (s19 : PH) =>
(some ((((31 : Int64) * u18) + r20.toInt64), s19)))))))))))
else
(bd (fX11_nonterminal a2 v4 s5) fun (r22 : Int32) (s21 : PH) =>
(lt (((31 : Int64) * u3) + r22.toInt64) fun (u23 : Int64) =>
(lt (v4 + (nI 1)) fun (v24 : Int32) =>
(recrec6 u23 v24 s21)))))) n u1 v2 s0)))
set_option maxRecDepth 20000 in
set_option maxHeartbeats 2000000 in
theorem mX11_mixNonterminal (l : Launch) (n : Nat) (a1 : Int64) (a2 : Int32) (s0 : PH) : Ctl 148 l yX11_mixNonterminal cX11_mixNonterminal 7 (some .long) (rmOf 3 70) (fun E => [.ref (E.2.1 0), .long a1, .int a2]) s0 (fX11_mixNonterminal n a1 a2 s0) := by
  refine Ctl.of (by decide) rfl (lv := fun E => [(0, .ref (E.2.1 0)), (1, .long a1), (3, .int a2)]) (fun _ => Nat.le_of_ble_eq_true rfl) (fun _ => rfl) (fun Γ hΓ _ C => ?_)
  subst hΓ
  unfold fX11_mixNonterminal
  refine rf_ldc2 C dX11_mixNonterminal_0 klX11_246 ?_
  refine rf_lload_n C dX11_mixNonterminal_3 rfl 1 rfl ?_
  refine rf_lmul C dX11_mixNonterminal_4 ?_
  refine rf_iload_n C dX11_mixNonterminal_5 rfl 2 rfl ?_
  refine rf_i2l C dX11_mixNonterminal_6 ?_
  refine rf_ladd C dX11_mixNonterminal_7 ?_
  refine rf_lstore C (fun u1 => [(4, .long u1), (0, .ref ((gE Γ).2.1 0)), (1, .long a1), (3, .int a2)]) dX11_mixNonterminal_8 (by decide) (fun _ => rfl) (fun u1 => ?_)
  refine rf_iconst C (v := (nI 1)) dX11_mixNonterminal_10 rfl ?_
  refine rf_istore C (fun v2 => [(6, .int v2), (4, .long u1), (0, .ref ((gE Γ).2.1 0)), (1, .long a1), (3, .int a2)]) dX11_mixNonterminal_11 (by decide) (fun _ => rfl) (fun v2 => ?_)
  refine rf_sub [2, 4, 1, 0] rfl ?_
  refine rf_loo3 (fun _ _ _ => True) (fun _ _ s5 => s5) (fun u3 v4 s5 => [(0, .ref ((gE Γ).2.1 0)), (3, .int a2), (4, .long u3), (6, .int v4)]) (fun recrec6 hrec6 u3 v4 s5 _ => ?_) n u1 v2 s0 trivial
  refine rf_iload C dX11_mixNonterminal_13 3 rfl ?_
  refine rf_bipush C (v := (nI 7)) dX11_mixNonterminal_15 rfl ?_
  refine rf_icmp_gt C 43 dX11_mixNonterminal_17 (by decide) (fun _ => ?_) (fun _ => ?_)
  · refine rf_ldc2 C dX11_mixNonterminal_43 klX11_246 ?_
    refine rf_lload C dX11_mixNonterminal_46 2 rfl ?_
    refine rf_lmul C dX11_mixNonterminal_48 ?_
    refine rf_aload_n C dX11_mixNonterminal_49 rfl 0 rfl ?_
    refine rf_iconst C (v := (nI 0)) dX11_mixNonterminal_50 rfl ?_
    refine rf_iload_n C dX11_mixNonterminal_51 rfl 1 rfl ?_
    refine rf_iconst C (v := (nI 3)) dX11_mixNonterminal_52 rfl ?_
    refine rf_callVi C (rmc := rmOf 2 44) [.int (nI 0), .int a2, .int (nI 3)] (by decide) (mX11_words (gL Γ) n (nI 0) a2 (nI 3) s5) mfX11_words mvX11_words mlX11_261 rfl oX11 rfl rfl rfl (Nat.le_of_ble_eq_true rfl) ⟨Nat.le_of_ble_eq_true rfl, Nat.le_of_ble_eq_true rfl⟩ dX11_mixNonterminal_53 (fun r8 s7 => ?_)
    refine rf_i2l C dX11_mixNonterminal_56 ?_
    refine rf_ladd C dX11_mixNonterminal_57 ?_
    refine rf_lstore C (fun u9 => [(4, .long u9), (0, .ref ((gE Γ).2.1 0)), (3, .int a2), (6, .int v4)]) dX11_mixNonterminal_58 (by decide) (fun _ => rfl) (fun u9 => ?_)
    refine rf_ldc2 C dX11_mixNonterminal_60 klX11_246 ?_
    refine rf_lload C dX11_mixNonterminal_63 0 rfl ?_
    refine rf_lmul C dX11_mixNonterminal_65 ?_
    refine rf_aload_n C dX11_mixNonterminal_66 rfl 1 rfl ?_
    refine rf_iconst C (v := (nI 1)) dX11_mixNonterminal_67 rfl ?_
    refine rf_iload_n C dX11_mixNonterminal_68 rfl 2 rfl ?_
    refine rf_iconst C (v := (nI 3)) dX11_mixNonterminal_69 rfl ?_
    refine rf_callVi C (rmc := rmOf 2 44) [.int (nI 1), .int a2, .int (nI 3)] (by decide) (mX11_words (gL Γ) n (nI 1) a2 (nI 3) s7) mfX11_words mvX11_words mlX11_261 rfl oX11 rfl rfl rfl (Nat.le_of_ble_eq_true rfl) ⟨Nat.le_of_ble_eq_true rfl, Nat.le_of_ble_eq_true rfl⟩ dX11_mixNonterminal_70 (fun r11 s10 => ?_)
    refine rf_i2l C dX11_mixNonterminal_73 ?_
    refine rf_ladd C dX11_mixNonterminal_74 ?_
    refine rf_lstore C (fun u12 => [(4, .long u12), (0, .ref ((gE Γ).2.1 0)), (3, .int a2), (6, .int v4)]) dX11_mixNonterminal_75 (by decide) (fun _ => rfl) (fun u12 => ?_)
    refine rf_ldc2 C dX11_mixNonterminal_77 klX11_246 ?_
    refine rf_lload C dX11_mixNonterminal_80 0 rfl ?_
    refine rf_lmul C dX11_mixNonterminal_82 ?_
    refine rf_aload_n C dX11_mixNonterminal_83 rfl 1 rfl ?_
    refine rf_iload_n C dX11_mixNonterminal_84 rfl 2 rfl ?_
    refine rf_callVi C (rmc := rmOf 2 42) [.int a2] (by decide) (mX11_depth (gL Γ) a2 s10) mfX11_depth mvX11_depth mlX11_271 rfl oX11 rfl rfl rfl (Nat.le_of_ble_eq_true rfl) ⟨Nat.le_of_ble_eq_true rfl, Nat.le_of_ble_eq_true rfl⟩ dX11_mixNonterminal_85 (fun r14 s13 => ?_)
    refine rf_i2l C dX11_mixNonterminal_88 ?_
    refine rf_ladd C dX11_mixNonterminal_89 ?_
    refine rf_lstore C (fun u15 => [(4, .long u15), (0, .ref ((gE Γ).2.1 0)), (3, .int a2), (6, .int v4)]) dX11_mixNonterminal_90 (by decide) (fun _ => rfl) (fun u15 => ?_)
    refine rf_ldc2 C dX11_mixNonterminal_92 klX11_246 ?_
    refine rf_lload C dX11_mixNonterminal_95 0 rfl ?_
    refine rf_lmul C dX11_mixNonterminal_97 ?_
    refine rf_aload_n C dX11_mixNonterminal_98 rfl 1 rfl ?_
    refine rf_iload_n C dX11_mixNonterminal_99 rfl 2 rfl ?_
    refine rf_callVi C (rmc := rmOf 2 42) [.int a2] (by decide) (mX11_approximate (gL Γ) a2 s13) mfX11_approximate mvX11_approximate mlX11_274 rfl oX11 rfl rfl rfl (Nat.le_of_ble_eq_true rfl) ⟨Nat.le_of_ble_eq_true rfl, Nat.le_of_ble_eq_true rfl⟩ dX11_mixNonterminal_100 (fun r17 s16 => ?_)
    refine rf_i2l C dX11_mixNonterminal_103 ?_
    refine rf_ladd C dX11_mixNonterminal_104 ?_
    refine rf_lstore C (fun u18 => [(4, .long u18), (0, .ref ((gE Γ).2.1 0)), (3, .int a2), (6, .int v4)]) dX11_mixNonterminal_105 (by decide) (fun _ => rfl) (fun u18 => ?_)
    refine rf_ldc2 C dX11_mixNonterminal_107 klX11_246 ?_
    refine rf_lload C dX11_mixNonterminal_110 0 rfl ?_
    refine rf_lmul C dX11_mixNonterminal_112 ?_
    refine rf_aload_n C dX11_mixNonterminal_113 rfl 1 rfl ?_
    refine rf_iload_n C dX11_mixNonterminal_114 rfl 2 rfl ?_
    refine rf_iconst C (v := (nI 3)) dX11_mixNonterminal_115 rfl ?_
    refine rf_callVi C (rmc := rmOf 2 48) [.int a2, .int (nI 3)] (by decide) (mX11_clash (gL Γ) n a2 (nI 3) s16) mfX11_clash mvX11_clash mlX11_277 rfl oX11 rfl rfl rfl (Nat.le_of_ble_eq_true rfl) ⟨Nat.le_of_ble_eq_true rfl, Nat.le_of_ble_eq_true rfl⟩ dX11_mixNonterminal_116 (fun r20 s19 => ?_)
    refine rf_i2l C dX11_mixNonterminal_119 ?_
    refine rf_ladd C dX11_mixNonterminal_120 ?_
    exact rf_lret C dX11_mixNonterminal_121
  refine rf_ldc2 C dX11_mixNonterminal_20 klX11_246 ?_
  refine rf_lload C dX11_mixNonterminal_23 2 rfl ?_
  refine rf_lmul C dX11_mixNonterminal_25 ?_
  refine rf_aload_n C dX11_mixNonterminal_26 rfl 0 rfl ?_
  refine rf_iload_n C dX11_mixNonterminal_27 rfl 1 rfl ?_
  refine rf_iload C dX11_mixNonterminal_28 3 rfl ?_
  refine rf_callVi C (rmc := rmOf 1 21) [.int a2, .int v4] (by decide) (mX11_nonterminal (gL Γ) a2 v4 s5) mfX11_nonterminal mvX11_nonterminal mlX11_268 rfl oX11 rfl rfl rfl (Nat.le_of_ble_eq_true rfl) ⟨Nat.le_of_ble_eq_true rfl, Nat.le_of_ble_eq_true rfl⟩ dX11_mixNonterminal_30 (fun r22 s21 => ?_)
  refine rf_i2l C dX11_mixNonterminal_33 ?_
  refine rf_ladd C dX11_mixNonterminal_34 ?_
  refine rf_lstore C (fun u23 => [(4, .long u23), (0, .ref ((gE Γ).2.1 0)), (3, .int a2), (6, .int v4)]) dX11_mixNonterminal_35 (by decide) (fun _ => rfl) (fun u23 => ?_)
  refine rf_iinc C (fun v24 => [(6, .int v24), (4, .long u23), (0, .ref ((gE Γ).2.1 0)), (3, .int a2)]) dX11_mixNonterminal_37 3 rfl rfl (by decide) (fun _ => rfl) (fun v24 => ?_)
  refine rf_goto C 13 dX11_mixNonterminal_40 (by decide) ?_
  exact rf_sub [2, 3, 1, 0] rfl (hrec6 u23 v24 s21 trivial)

def fX11_mixProduction (n : Nat) (a1 : Int64) (a2 : Int32) (s0 : PH) : Option (Int64 × PH) :=
(lt (s0.2.2 0 8) fun (g1 : Nat) =>
(bd (fX4_left g1 a2 s0) fun (r3 : Int32) (s2 : PH) =>
(lt (((31 : Int64) * a1) + r3.toInt64) fun (u4 : Int64) =>
(lt (s2.2.2 0 8) fun (g5 : Nat) =>
(bd (fX4_length g5 a2 s2) fun (r7 : Int32) (s6 : PH) =>
(lt (((31 : Int64) * u4) + r7.toInt64) fun (u8 : Int64) =>
(lt (nI 0) fun (v9 : Int32) =>
(loo3 (fun (recrec13 : Int64 → Int32 → PH → Option (Int64 × PH)) (u10 : Int64) (v11 : Int32) (s12 : PH) =>
(lt (s12.2.2 0 8) fun (g14 : Nat) =>
(bd (fX4_length g14 a2 s12) fun (r16 : Int32) (s15 : PH) =>
(if r16 ≤ v11 then
(lt (nI 0) fun (v17 : Int32) =>
(loo3 (fun (recrec21 : Int64 → Int32 → PH → Option (Int64 × PH)) (u18 : Int64) (v19 : Int32) (s20 : PH) =>
(if (nI 3) < v19 then
(lt (nI 0) fun (v22 : Int32) =>
(loo3 (fun (recrec26 : Int64 → Int32 → PH → Option (Int64 × PH)) (u23 : Int64) (v24 : Int32) (s25 : PH) =>
(if (nI 3) ≤ v24 then
(some (u23, s25))
else
(bd (fX11_marks n a2 v24 s25) fun (r28 : Int32) (s27 : PH) =>
(lt (((31 : Int64) * u23) + r28.toInt64) fun (u29 : Int64) =>
(lt (v24 + (nI 1)) fun (v30 : Int32) =>
(recrec26 u29 v30 s27)))))) n u18 v22 s20))
else
(bd (fX11_words n (nI 2) a2 v19 s20) fun (r32 : Int32) (s31 : PH) =>
(lt (((31 : Int64) * u18) + r32.toInt64) fun (u33 : Int64) =>
(lt (v19 + (nI 1)) fun (v34 : Int32) =>
(recrec21 u33 v34 s31)))))) n u10 v17 s15))
else
(lt (s15.2.2 0 8) fun (g35 : Nat) =>
(bd (fX4_symbolAt g35 a2 v11 s15) fun (r37 : Int32) (s36 : PH) =>
(lt (((31 : Int64) * u10) + r37.toInt64) fun (u38 : Int64) =>
(lt (v11 + (nI 1)) fun (v39 : Int32) =>
(recrec13 u38 v39 s36))))))))) n u8 v9 s6))))))))
set_option maxRecDepth 20000 in
set_option maxHeartbeats 2000000 in
theorem mX11_mixProduction (l : Launch) (n : Nat) (a1 : Int64) (a2 : Int32) (s0 : PH) : Ctl 148 l yX11_mixProduction cX11_mixProduction 7 (some .long) (rmOf 3 70) (fun E => [.ref (E.2.1 0), .long a1, .int a2]) s0 (fX11_mixProduction n a1 a2 s0) := by
  refine Ctl.of (by decide) rfl (lv := fun E => [(0, .ref (E.2.1 0)), (1, .long a1), (3, .int a2)]) (fun _ => Nat.le_of_ble_eq_true rfl) (fun _ => rfl) (fun Γ hΓ _ C => ?_)
  subst hΓ
  unfold fX11_mixProduction
  refine rf_ldc2 C dX11_mixProduction_0 klX11_246 ?_
  refine rf_lload_n C dX11_mixProduction_3 rfl 1 rfl ?_
  refine rf_lmul C dX11_mixProduction_4 ?_
  refine rf_aload_n C dX11_mixProduction_5 rfl 0 rfl ?_
  refine rf_getG C cfX11 flX11_68 (by decide) oX11 (fun _ _ _ _ => rfl) dX11_mixProduction_6 (fun g1 hg1 => ?_)
  refine rf_iload_n C dX11_mixProduction_9 rfl 2 rfl ?_
  refine rf_callVi C (rmc := rmOf 0 0) [.int a2] (by decide) (mX4_left (gL Γ) g1 a2 s0 hg1) mfX4_left mvX4_left mlX11_116 rfl (oX4 hg1) rfl rfl rfl (Nat.le_of_ble_eq_true rfl) ⟨Nat.le_of_ble_eq_true rfl, Nat.le_of_ble_eq_true rfl⟩ dX11_mixProduction_10 (fun r3 s2 => ?_)
  refine rf_i2l C dX11_mixProduction_13 ?_
  refine rf_ladd C dX11_mixProduction_14 ?_
  refine rf_lstore C (fun u4 => [(4, .long u4), (0, .ref ((gE Γ).2.1 0)), (1, .long a1), (3, .int a2)]) dX11_mixProduction_15 (by decide) (fun _ => rfl) (fun u4 => ?_)
  refine rf_ldc2 C dX11_mixProduction_17 klX11_246 ?_
  refine rf_lload C dX11_mixProduction_20 0 rfl ?_
  refine rf_lmul C dX11_mixProduction_22 ?_
  refine rf_aload_n C dX11_mixProduction_23 rfl 1 rfl ?_
  refine rf_getG C cfX11 flX11_68 (by decide) oX11 (fun _ _ _ _ => rfl) dX11_mixProduction_24 (fun g5 hg5 => ?_)
  refine rf_iload_n C dX11_mixProduction_27 rfl 3 rfl ?_
  refine rf_callVi C (rmc := rmOf 0 0) [.int a2] (by decide) (mX4_length (gL Γ) g5 a2 s2 hg5) mfX4_length mvX4_length mlX11_120 rfl (oX4 hg5) rfl rfl rfl (Nat.le_of_ble_eq_true rfl) ⟨Nat.le_of_ble_eq_true rfl, Nat.le_of_ble_eq_true rfl⟩ dX11_mixProduction_28 (fun r7 s6 => ?_)
  refine rf_i2l C dX11_mixProduction_31 ?_
  refine rf_ladd C dX11_mixProduction_32 ?_
  refine rf_lstore C (fun u8 => [(4, .long u8), (0, .ref ((gE Γ).2.1 0)), (1, .long a1), (3, .int a2)]) dX11_mixProduction_33 (by decide) (fun _ => rfl) (fun u8 => ?_)
  refine rf_iconst C (v := (nI 0)) dX11_mixProduction_35 rfl ?_
  refine rf_istore C (fun v9 => [(6, .int v9), (4, .long u8), (0, .ref ((gE Γ).2.1 0)), (1, .long a1), (3, .int a2)]) dX11_mixProduction_36 (by decide) (fun _ => rfl) (fun v9 => ?_)
  refine rf_sub [2, 4, 1, 0] rfl ?_
  refine rf_loo3 (fun _ _ _ => True) (fun _ _ s12 => s12) (fun u10 v11 s12 => [(0, .ref ((gE Γ).2.1 0)), (3, .int a2), (4, .long u10), (6, .int v11)]) (fun recrec13 hrec13 u10 v11 s12 _ => ?_) n u8 v9 s6 trivial
  refine rf_iload C dX11_mixProduction_38 3 rfl ?_
  refine rf_aload_n C dX11_mixProduction_40 rfl 0 rfl ?_
  refine rf_getG C cfX11 flX11_68 (by decide) oX11 (fun _ _ _ _ => rfl) dX11_mixProduction_41 (fun g14 hg14 => ?_)
  refine rf_iload_n C dX11_mixProduction_44 rfl 1 rfl ?_
  refine rf_callVi C (rmc := rmOf 0 0) [.int a2] (by decide) (mX4_length (gL Γ) g14 a2 s12 hg14) mfX4_length mvX4_length mlX11_120 rfl (oX4 hg14) rfl rfl rfl (Nat.le_of_ble_eq_true rfl) ⟨Nat.le_of_ble_eq_true rfl, Nat.le_of_ble_eq_true rfl⟩ dX11_mixProduction_45 (fun r16 s15 => ?_)
  refine rf_icmp_ge C 77 dX11_mixProduction_48 (by decide) (fun _ => ?_) (fun _ => ?_)
  · refine rf_iconst C (v := (nI 0)) dX11_mixProduction_77 rfl ?_
    refine rf_istore C (fun v17 => [(6, .int v17), (0, .ref ((gE Γ).2.1 0)), (3, .int a2), (4, .long u10)]) dX11_mixProduction_78 (by decide) (fun _ => rfl) (fun v17 => ?_)
    refine rf_sub [1, 2, 3, 0] rfl ?_
    refine rf_loo3 (fun _ _ _ => True) (fun _ _ s20 => s20) (fun u18 v19 s20 => [(0, .ref ((gE Γ).2.1 0)), (3, .int a2), (4, .long u18), (6, .int v19)]) (fun recrec21 hrec21 u18 v19 s20 _ => ?_) n u10 v17 s15 trivial
    refine rf_iload C dX11_mixProduction_80 3 rfl ?_
    refine rf_iconst C (v := (nI 3)) dX11_mixProduction_82 rfl ?_
    refine rf_icmp_gt C 110 dX11_mixProduction_83 (by decide) (fun _ => ?_) (fun _ => ?_)
    · refine rf_iconst C (v := (nI 0)) dX11_mixProduction_110 rfl ?_
      refine rf_istore C (fun v22 => [(6, .int v22), (0, .ref ((gE Γ).2.1 0)), (3, .int a2), (4, .long u18)]) dX11_mixProduction_111 (by decide) (fun _ => rfl) (fun v22 => ?_)
      refine rf_sub [1, 2, 3, 0] rfl ?_
      refine rf_loo3 (fun _ _ _ => True) (fun _ _ s25 => s25) (fun u23 v24 s25 => [(0, .ref ((gE Γ).2.1 0)), (3, .int a2), (4, .long u23), (6, .int v24)]) (fun recrec26 hrec26 u23 v24 s25 _ => ?_) n u18 v22 s20 trivial
      refine rf_iload C dX11_mixProduction_113 3 rfl ?_
      refine rf_iconst C (v := (nI 3)) dX11_mixProduction_115 rfl ?_
      refine rf_icmp_ge C 142 dX11_mixProduction_116 (by decide) (fun _ => ?_) (fun _ => ?_)
      · refine rf_lload C dX11_mixProduction_142 2 rfl ?_
        exact rf_lret C dX11_mixProduction_144
      refine rf_ldc2 C dX11_mixProduction_119 klX11_246 ?_
      refine rf_lload C dX11_mixProduction_122 2 rfl ?_
      refine rf_lmul C dX11_mixProduction_124 ?_
      refine rf_aload_n C dX11_mixProduction_125 rfl 0 rfl ?_
      refine rf_iload_n C dX11_mixProduction_126 rfl 1 rfl ?_
      refine rf_iload C dX11_mixProduction_127 3 rfl ?_
      refine rf_callVi C (rmc := rmOf 2 48) [.int a2, .int v24] (by decide) (mX11_marks (gL Γ) n a2 v24 s25) mfX11_marks mvX11_marks mlX11_265 rfl oX11 rfl rfl rfl (Nat.le_of_ble_eq_true rfl) ⟨Nat.le_of_ble_eq_true rfl, Nat.le_of_ble_eq_true rfl⟩ dX11_mixProduction_129 (fun r28 s27 => ?_)
      refine rf_i2l C dX11_mixProduction_132 ?_
      refine rf_ladd C dX11_mixProduction_133 ?_
      refine rf_lstore C (fun u29 => [(4, .long u29), (0, .ref ((gE Γ).2.1 0)), (3, .int a2), (6, .int v24)]) dX11_mixProduction_134 (by decide) (fun _ => rfl) (fun u29 => ?_)
      refine rf_iinc C (fun v30 => [(6, .int v30), (4, .long u29), (0, .ref ((gE Γ).2.1 0)), (3, .int a2)]) dX11_mixProduction_136 3 rfl rfl (by decide) (fun _ => rfl) (fun v30 => ?_)
      refine rf_goto C 113 dX11_mixProduction_139 (by decide) ?_
      exact rf_sub [2, 3, 1, 0] rfl (hrec26 u29 v30 s27 trivial)
    refine rf_ldc2 C dX11_mixProduction_86 klX11_246 ?_
    refine rf_lload C dX11_mixProduction_89 2 rfl ?_
    refine rf_lmul C dX11_mixProduction_91 ?_
    refine rf_aload_n C dX11_mixProduction_92 rfl 0 rfl ?_
    refine rf_iconst C (v := (nI 2)) dX11_mixProduction_93 rfl ?_
    refine rf_iload_n C dX11_mixProduction_94 rfl 1 rfl ?_
    refine rf_iload C dX11_mixProduction_95 3 rfl ?_
    refine rf_callVi C (rmc := rmOf 2 44) [.int (nI 2), .int a2, .int v19] (by decide) (mX11_words (gL Γ) n (nI 2) a2 v19 s20) mfX11_words mvX11_words mlX11_261 rfl oX11 rfl rfl rfl (Nat.le_of_ble_eq_true rfl) ⟨Nat.le_of_ble_eq_true rfl, Nat.le_of_ble_eq_true rfl⟩ dX11_mixProduction_97 (fun r32 s31 => ?_)
    refine rf_i2l C dX11_mixProduction_100 ?_
    refine rf_ladd C dX11_mixProduction_101 ?_
    refine rf_lstore C (fun u33 => [(4, .long u33), (0, .ref ((gE Γ).2.1 0)), (3, .int a2), (6, .int v19)]) dX11_mixProduction_102 (by decide) (fun _ => rfl) (fun u33 => ?_)
    refine rf_iinc C (fun v34 => [(6, .int v34), (4, .long u33), (0, .ref ((gE Γ).2.1 0)), (3, .int a2)]) dX11_mixProduction_104 3 rfl rfl (by decide) (fun _ => rfl) (fun v34 => ?_)
    refine rf_goto C 80 dX11_mixProduction_107 (by decide) ?_
    exact rf_sub [2, 3, 1, 0] rfl (hrec21 u33 v34 s31 trivial)
  refine rf_ldc2 C dX11_mixProduction_51 klX11_246 ?_
  refine rf_lload C dX11_mixProduction_54 2 rfl ?_
  refine rf_lmul C dX11_mixProduction_56 ?_
  refine rf_aload_n C dX11_mixProduction_57 rfl 0 rfl ?_
  refine rf_getG C cfX11 flX11_68 (by decide) oX11 (fun _ _ _ _ => rfl) dX11_mixProduction_58 (fun g35 hg35 => ?_)
  refine rf_iload_n C dX11_mixProduction_61 rfl 1 rfl ?_
  refine rf_iload C dX11_mixProduction_62 3 rfl ?_
  refine rf_callVi C (rmc := rmOf 0 0) [.int a2, .int v11] (by decide) (mX4_symbolAt (gL Γ) g35 a2 v11 s15 hg35) mfX4_symbolAt mvX4_symbolAt mlX11_123 rfl (oX4 hg35) rfl rfl rfl (Nat.le_of_ble_eq_true rfl) ⟨Nat.le_of_ble_eq_true rfl, Nat.le_of_ble_eq_true rfl⟩ dX11_mixProduction_64 (fun r37 s36 => ?_)
  refine rf_i2l C dX11_mixProduction_67 ?_
  refine rf_ladd C dX11_mixProduction_68 ?_
  refine rf_lstore C (fun u38 => [(4, .long u38), (0, .ref ((gE Γ).2.1 0)), (3, .int a2), (6, .int v11)]) dX11_mixProduction_69 (by decide) (fun _ => rfl) (fun u38 => ?_)
  refine rf_iinc C (fun v39 => [(6, .int v39), (4, .long u38), (0, .ref ((gE Γ).2.1 0)), (3, .int a2)]) dX11_mixProduction_71 3 rfl rfl (by decide) (fun _ => rfl) (fun v39 => ?_)
  refine rf_goto C 38 dX11_mixProduction_74 (by decide) ?_
  exact rf_sub [2, 3, 1, 0] rfl (hrec13 u38 v39 s36 trivial)

def fX11_digest (n : Nat) (s0 : PH) : Option (Int64 × PH) :=
(lt (17313 : Int64) fun (u1 : Int64) =>
(lt (nI 0) fun (v2 : Int32) =>
(loo3 (fun (recrec6 : Int64 → Int32 → PH → Option (Int64 × PH)) (u3 : Int64) (v4 : Int32) (s5 : PH) =>
(if (nI 5) < v4 then
(lt (nI 0) fun (v7 : Int32) =>
(loo3 (fun (recrec11 : Int64 → Int32 → PH → Option (Int64 × PH)) (u8 : Int64) (v9 : Int32) (s10 : PH) =>
(lt (s10.2.2 0 8) fun (g12 : Nat) =>
(bd (fX4_count g12 s10) fun (r14 : Int32) (s13 : PH) =>
(if r14 ≤ v9 then
(lt (nI 0) fun (v15 : Int32) =>
(loo3 (fun (recrec19 : Int64 → Int32 → PH → Option (Int64 × PH)) (u16 : Int64) (v17 : Int32) (s18 : PH) =>
(if (nI 6) ≤ v17 then
(bd (fX11_deepest n (nI 0) s18) fun (r21 : Int32) (s20 : PH) =>
(lt (((31 : Int64) * u16) + r21.toInt64) fun (u22 : Int64) =>
(bd (fX11_deepest n (nI 1) s20) fun (r24 : Int32) (s23 : PH) =>
(lt (((31 : Int64) * u22) + r24.toInt64) fun (u25 : Int64) =>
(lt (nI 0) fun (v26 : Int32) =>
(loo3 (fun (recrec30 : Int64 → Int32 → PH → Option (Int64 × PH)) (u27 : Int64) (v28 : Int32) (s29 : PH) =>
(bd (fX6_count s29) fun (r32 : Int32) (s31 : PH) =>
(if r32 ≤ v28 then
(bd (fX11_fault s31) fun (r34 : Int32) (s33 : PH) =>
(some ((((31 : Int64) * u27) + r34.toInt64), s33)))
else
(bd (fX6_choice v28 s31) fun (r36 : Int32) (s35 : PH) =>
(lt (((31 : Int64) * u27) + r36.toInt64) fun (u37 : Int64) =>
(lt (v28 + (nI 1)) fun (v38 : Int32) =>
(recrec30 u37 v38 s35))))))) n u25 v26 s23))))))
else
(bd (fX11_isDefined v17 s18) fun (r40 : Int32) (s39 : PH) =>
(jn (fun (u41 : Int64) (s42 : PH) =>
(lt (v17 + (nI 1)) fun (v44 : Int32) =>
(recrec19 u41 v44 s42))) (fun (j43 : Int64 → PH → Option (Int64 × PH)) =>
(if r40 = 0 then
(j43 u16 s39)
else
(bd (fX11_mixNonterminal n u16 v17 s39) fun (r46 : Int64) (s45 : PH) =>
(lt r46 fun (u47 : Int64) =>
(j43 u47 s45))))))))) n u8 v15 s13))
else
(bd (fX11_mixProduction n u8 v9 s13) fun (r49 : Int64) (s48 : PH) =>
(lt r49 fun (u50 : Int64) =>
(lt (v9 + (nI 1)) fun (v51 : Int32) =>
(recrec11 u50 v51 s48)))))))) n u3 v7 s5))
else
(bd (fX11_told v4 s5) fun (r53 : Int32) (s52 : PH) =>
(lt (((31 : Int64) * u3) + r53.toInt64) fun (u54 : Int64) =>
(lt (v4 + (nI 1)) fun (v55 : Int32) =>
(recrec6 u54 v55 s52)))))) n u1 v2 s0)))
set_option maxRecDepth 20000 in
set_option maxHeartbeats 2000000 in
theorem mX11_digest (l : Launch) (n : Nat) (s0 : PH) : Ctl 148 l yX11_digest cX11_digest 4 (some .long) (rmOf 4 96) (fun E => [.ref (E.2.1 0)]) s0 (fX11_digest n s0) := by
  refine Ctl.of (by decide) rfl (lv := fun E => [(0, .ref (E.2.1 0))]) (fun _ => Nat.le_of_ble_eq_true rfl) (fun _ => rfl) (fun Γ hΓ _ C => ?_)
  subst hΓ
  unfold fX11_digest
  refine rf_ldc2 C dX11_digest_0 klX11_244 ?_
  refine rf_lstore_n C (fun u1 => [(1, .long u1), (0, .ref ((gE Γ).2.1 0))]) dX11_digest_3 rfl (by decide) (fun _ => rfl) (fun u1 => ?_)
  refine rf_iconst C (v := (nI 0)) dX11_digest_4 rfl ?_
  refine rf_istore_n C (fun v2 => [(3, .int v2), (1, .long u1), (0, .ref ((gE Γ).2.1 0))]) dX11_digest_5 rfl (by decide) (fun _ => rfl) (fun v2 => ?_)
  refine rf_sub [2, 1, 0] rfl ?_
  refine rf_loo3 (fun _ _ _ => True) (fun _ _ s5 => s5) (fun u3 v4 s5 => [(0, .ref ((gE Γ).2.1 0)), (1, .long u3), (3, .int v4)]) (fun recrec6 hrec6 u3 v4 s5 _ => ?_) n u1 v2 s0 trivial
  refine rf_iload_n C dX11_digest_6 rfl 2 rfl ?_
  refine rf_iconst C (v := (nI 5)) dX11_digest_7 rfl ?_
  refine rf_icmp_gt C 30 dX11_digest_8 (by decide) (fun _ => ?_) (fun _ => ?_)
  · refine rf_iconst C (v := (nI 0)) dX11_digest_30 rfl ?_
    refine rf_istore_n C (fun v7 => [(3, .int v7), (0, .ref ((gE Γ).2.1 0)), (1, .long u3)]) dX11_digest_31 rfl (by decide) (fun _ => rfl) (fun v7 => ?_)
    refine rf_sub [1, 2, 0] rfl ?_
    refine rf_loo3 (fun _ _ _ => True) (fun _ _ s10 => s10) (fun u8 v9 s10 => [(0, .ref ((gE Γ).2.1 0)), (1, .long u8), (3, .int v9)]) (fun recrec11 hrec11 u8 v9 s10 _ => ?_) n u3 v7 s5 trivial
    refine rf_iload_n C dX11_digest_32 rfl 2 rfl ?_
    refine rf_aload_n C dX11_digest_33 rfl 0 rfl ?_
    refine rf_getG C cfX11 flX11_68 (by decide) oX11 (fun _ _ _ _ => rfl) dX11_digest_34 (fun g12 hg12 => ?_)
    refine rf_callVi C (rmc := rmOf 0 0) [] (by decide) (mX4_count (gL Γ) g12 s10 hg12) mfX4_count mvX4_count mlX11_110 rfl (oX4 hg12) rfl rfl rfl (Nat.le_of_ble_eq_true rfl) ⟨Nat.le_of_ble_eq_true rfl, Nat.le_of_ble_eq_true rfl⟩ dX11_digest_37 (fun r14 s13 => ?_)
    refine rf_icmp_ge C 56 dX11_digest_40 (by decide) (fun _ => ?_) (fun _ => ?_)
    · refine rf_iconst C (v := (nI 0)) dX11_digest_56 rfl ?_
      refine rf_istore_n C (fun v15 => [(3, .int v15), (0, .ref ((gE Γ).2.1 0)), (1, .long u8)]) dX11_digest_57 rfl (by decide) (fun _ => rfl) (fun v15 => ?_)
      refine rf_sub [1, 2, 0] rfl ?_
      refine rf_loo3 (fun _ _ _ => True) (fun _ _ s18 => s18) (fun u16 v17 s18 => [(0, .ref ((gE Γ).2.1 0)), (1, .long u16), (3, .int v17)]) (fun recrec19 hrec19 u16 v17 s18 _ => ?_) n u8 v15 s13 trivial
      refine rf_iload_n C dX11_digest_58 rfl 2 rfl ?_
      refine rf_bipush C (v := (nI 6)) dX11_digest_59 rfl ?_
      refine rf_icmp_ge C 85 dX11_digest_61 (by decide) (fun _ => ?_) (fun _ => ?_)
      · refine rf_ldc2 C dX11_digest_85 klX11_246 ?_
        refine rf_lload_n C dX11_digest_88 rfl 1 rfl ?_
        refine rf_lmul C dX11_digest_89 ?_
        refine rf_aload_n C dX11_digest_90 rfl 0 rfl ?_
        refine rf_iconst C (v := (nI 0)) dX11_digest_91 rfl ?_
        refine rf_callVi C (rmc := rmOf 2 42) [.int (nI 0)] (by decide) (mX11_deepest (gL Γ) n (nI 0) s18) mfX11_deepest mvX11_deepest mlX11_201 rfl oX11 rfl rfl rfl (Nat.le_of_ble_eq_true rfl) ⟨Nat.le_of_ble_eq_true rfl, Nat.le_of_ble_eq_true rfl⟩ dX11_digest_92 (fun r21 s20 => ?_)
        refine rf_i2l C dX11_digest_95 ?_
        refine rf_ladd C dX11_digest_96 ?_
        refine rf_lstore_n C (fun u22 => [(1, .long u22), (0, .ref ((gE Γ).2.1 0)), (3, .int v17)]) dX11_digest_97 rfl (by decide) (fun _ => rfl) (fun u22 => ?_)
        refine rf_ldc2 C dX11_digest_98 klX11_246 ?_
        refine rf_lload_n C dX11_digest_101 rfl 0 rfl ?_
        refine rf_lmul C dX11_digest_102 ?_
        refine rf_aload_n C dX11_digest_103 rfl 1 rfl ?_
        refine rf_iconst C (v := (nI 1)) dX11_digest_104 rfl ?_
        refine rf_callVi C (rmc := rmOf 2 42) [.int (nI 1)] (by decide) (mX11_deepest (gL Γ) n (nI 1) s20) mfX11_deepest mvX11_deepest mlX11_201 rfl oX11 rfl rfl rfl (Nat.le_of_ble_eq_true rfl) ⟨Nat.le_of_ble_eq_true rfl, Nat.le_of_ble_eq_true rfl⟩ dX11_digest_105 (fun r24 s23 => ?_)
        refine rf_i2l C dX11_digest_108 ?_
        refine rf_ladd C dX11_digest_109 ?_
        refine rf_lstore_n C (fun u25 => [(1, .long u25), (0, .ref ((gE Γ).2.1 0)), (3, .int v17)]) dX11_digest_110 rfl (by decide) (fun _ => rfl) (fun u25 => ?_)
        refine rf_iconst C (v := (nI 0)) dX11_digest_111 rfl ?_
        refine rf_istore_n C (fun v26 => [(3, .int v26), (1, .long u25), (0, .ref ((gE Γ).2.1 0))]) dX11_digest_112 rfl (by decide) (fun _ => rfl) (fun v26 => ?_)
        refine rf_sub [2, 1, 0] rfl ?_
        refine rf_loo3 (fun _ _ _ => True) (fun _ _ s29 => s29) (fun u27 v28 s29 => [(0, .ref ((gE Γ).2.1 0)), (1, .long u27), (3, .int v28)]) (fun recrec30 hrec30 u27 v28 s29 _ => ?_) n u25 v26 s23 trivial
        refine rf_iload_n C dX11_digest_113 rfl 2 rfl ?_
        refine rf_aload_n C dX11_digest_114 rfl 0 rfl ?_
        refine rf_get C (v := .ref ((gE Γ).2.1 21)) cfX11 flX11_47 (by decide) oX11 rfl dX11_digest_115 ?_
        refine rf_callVi C (rmc := rmOf 0 0) [] (by decide) (mX6_count (gL Γ) s29) mfX6_count mvX6_count mlX11_216 rfl oX6 rfl rfl rfl (Nat.le_of_ble_eq_true rfl) ⟨Nat.le_of_ble_eq_true rfl, Nat.le_of_ble_eq_true rfl⟩ dX11_digest_118 (fun r32 s31 => ?_)
        refine rf_icmp_ge C 146 dX11_digest_121 (by decide) (fun _ => ?_) (fun _ => ?_)
        · refine rf_ldc2 C dX11_digest_146 klX11_246 ?_
          refine rf_lload_n C dX11_digest_149 rfl 1 rfl ?_
          refine rf_lmul C dX11_digest_150 ?_
          refine rf_aload_n C dX11_digest_151 rfl 0 rfl ?_
          refine rf_callVi C (rmc := rmOf 1 20) [] (by decide) (mX11_fault (gL Γ) s31) mfX11_fault mvX11_fault mlX11_258 rfl oX11 rfl rfl rfl (Nat.le_of_ble_eq_true rfl) ⟨Nat.le_of_ble_eq_true rfl, Nat.le_of_ble_eq_true rfl⟩ dX11_digest_152 (fun r34 s33 => ?_)
          refine rf_i2l C dX11_digest_155 ?_
          refine rf_ladd C dX11_digest_156 ?_
          exact rf_lret C dX11_digest_157
        refine rf_ldc2 C dX11_digest_124 klX11_246 ?_
        refine rf_lload_n C dX11_digest_127 rfl 1 rfl ?_
        refine rf_lmul C dX11_digest_128 ?_
        refine rf_aload_n C dX11_digest_129 rfl 0 rfl ?_
        refine rf_get C (v := .ref ((gE Γ).2.1 21)) cfX11 flX11_47 (by decide) oX11 rfl dX11_digest_130 ?_
        refine rf_iload_n C dX11_digest_133 rfl 2 rfl ?_
        refine rf_callVi C (rmc := rmOf 0 0) [.int v28] (by decide) (mX6_choice (gL Γ) v28 s31) mfX6_choice mvX6_choice mlX11_217 rfl oX6 rfl rfl rfl (Nat.le_of_ble_eq_true rfl) ⟨Nat.le_of_ble_eq_true rfl, Nat.le_of_ble_eq_true rfl⟩ dX11_digest_134 (fun r36 s35 => ?_)
        refine rf_i2l C dX11_digest_137 ?_
        refine rf_ladd C dX11_digest_138 ?_
        refine rf_lstore_n C (fun u37 => [(1, .long u37), (0, .ref ((gE Γ).2.1 0)), (3, .int v28)]) dX11_digest_139 rfl (by decide) (fun _ => rfl) (fun u37 => ?_)
        refine rf_iinc C (fun v38 => [(3, .int v38), (1, .long u37), (0, .ref ((gE Γ).2.1 0))]) dX11_digest_140 2 rfl rfl (by decide) (fun _ => rfl) (fun v38 => ?_)
        refine rf_goto C 113 dX11_digest_143 (by decide) ?_
        exact rf_sub [2, 1, 0] rfl (hrec30 u37 v38 s35 trivial)
      refine rf_aload_n C dX11_digest_64 rfl 0 rfl ?_
      refine rf_iload_n C dX11_digest_65 rfl 2 rfl ?_
      refine rf_callVi C (rmc := rmOf 1 21) [.int v17] (by decide) (mX11_isDefined (gL Γ) v17 s18) mfX11_isDefined mvX11_isDefined mlX11_152 rfl oX11 rfl rfl rfl (Nat.le_of_ble_eq_true rfl) ⟨Nat.le_of_ble_eq_true rfl, Nat.le_of_ble_eq_true rfl⟩ dX11_digest_66 (fun r40 s39 => ?_)
      refine rf_jn2 (fun _ _ => True) (fun _ s42 => s42) (fun u41 s42 => [(0, .ref ((gE Γ).2.1 0)), (1, .long u41), (3, .int v17)]) (fun u41 s42 => []) 79 (fun u41 s42 _ => ?_) (fun j43 hj43 => ?_)
      · refine rf_iinc C (fun v44 => [(3, .int v44), (0, .ref ((gE Γ).2.1 0)), (1, .long u41)]) dX11_digest_79 2 rfl rfl (by decide) (fun _ => rfl) (fun v44 => ?_)
        refine rf_goto C 58 dX11_digest_82 (by decide) ?_
        exact rf_sub [1, 2, 0] rfl (hrec19 u41 v44 s42 trivial)
      refine rf_if_eq C 79 dX11_digest_69 (by decide) (fun _ => ?_) (fun _ => ?_)
      · exact rf_sub [0, 1, 2] rfl (hj43 u16 s39 trivial)
      refine rf_aload_n C dX11_digest_72 rfl 0 rfl ?_
      refine rf_lload_n C dX11_digest_73 rfl 1 rfl ?_
      refine rf_iload_n C dX11_digest_74 rfl 2 rfl ?_
      refine rf_callVl C (rmc := rmOf 3 70) [.long u16, .int v17] (by decide) (mX11_mixNonterminal (gL Γ) n u16 v17 s39) mfX11_mixNonterminal mvX11_mixNonterminal mlX11_255 rfl oX11 rfl rfl rfl (Nat.le_of_ble_eq_true rfl) ⟨Nat.le_of_ble_eq_true rfl, Nat.le_of_ble_eq_true rfl⟩ dX11_digest_75 (fun r46 s45 => ?_)
      refine rf_lstore_n C (fun u47 => [(1, .long u47), (0, .ref ((gE Γ).2.1 0)), (3, .int v17)]) dX11_digest_78 rfl (by decide) (fun _ => rfl) (fun u47 => ?_)
      exact rf_sub [1, 0, 2] rfl (hj43 u47 s45 trivial)
    refine rf_aload_n C dX11_digest_43 rfl 0 rfl ?_
    refine rf_lload_n C dX11_digest_44 rfl 1 rfl ?_
    refine rf_iload_n C dX11_digest_45 rfl 2 rfl ?_
    refine rf_callVl C (rmc := rmOf 3 70) [.long u8, .int v9] (by decide) (mX11_mixProduction (gL Γ) n u8 v9 s13) mfX11_mixProduction mvX11_mixProduction mlX11_251 rfl oX11 rfl rfl rfl (Nat.le_of_ble_eq_true rfl) ⟨Nat.le_of_ble_eq_true rfl, Nat.le_of_ble_eq_true rfl⟩ dX11_digest_46 (fun r49 s48 => ?_)
    refine rf_lstore_n C (fun u50 => [(1, .long u50), (0, .ref ((gE Γ).2.1 0)), (3, .int v9)]) dX11_digest_49 rfl (by decide) (fun _ => rfl) (fun u50 => ?_)
    refine rf_iinc C (fun v51 => [(3, .int v51), (1, .long u50), (0, .ref ((gE Γ).2.1 0))]) dX11_digest_50 2 rfl rfl (by decide) (fun _ => rfl) (fun v51 => ?_)
    refine rf_goto C 32 dX11_digest_53 (by decide) ?_
    exact rf_sub [2, 1, 0] rfl (hrec11 u50 v51 s48 trivial)
  refine rf_ldc2 C dX11_digest_11 klX11_246 ?_
  refine rf_lload_n C dX11_digest_14 rfl 1 rfl ?_
  refine rf_lmul C dX11_digest_15 ?_
  refine rf_aload_n C dX11_digest_16 rfl 0 rfl ?_
  refine rf_iload_n C dX11_digest_17 rfl 2 rfl ?_
  refine rf_callVi C (rmc := rmOf 1 20) [.int v4] (by decide) (mX11_told (gL Γ) v4 s5) mfX11_told mvX11_told mlX11_248 rfl oX11 rfl rfl rfl (Nat.le_of_ble_eq_true rfl) ⟨Nat.le_of_ble_eq_true rfl, Nat.le_of_ble_eq_true rfl⟩ dX11_digest_18 (fun r53 s52 => ?_)
  refine rf_i2l C dX11_digest_21 ?_
  refine rf_ladd C dX11_digest_22 ?_
  refine rf_lstore_n C (fun u54 => [(1, .long u54), (0, .ref ((gE Γ).2.1 0)), (3, .int v4)]) dX11_digest_23 rfl (by decide) (fun _ => rfl) (fun u54 => ?_)
  refine rf_iinc C (fun v55 => [(3, .int v55), (1, .long u54), (0, .ref ((gE Γ).2.1 0))]) dX11_digest_24 2 rfl rfl (by decide) (fun _ => rfl) (fun v55 => ?_)
  refine rf_goto C 6 dX11_digest_27 (by decide) ?_
  exact rf_sub [2, 1, 0] rfl (hrec6 u54 v55 s52 trivial)

def fX12_in (a1 : Int32) (a2 : Int32) (a3 : Int32) (s0 : PH) : Option (Int32 × PH) :=
(if a1 < a2 then
(some ((nI 0), s0))
else
(if a3 < a1 then
(some ((nI 0), s0))
else
(some ((nI 1), s0))))
set_option maxRecDepth 20000 in
set_option maxHeartbeats 2000000 in
theorem mX12_in (l : Launch) (a1 : Int32) (a2 : Int32) (a3 : Int32) (s0 : PH) : Cti 174 l yX12_in cX12_in 3 (some .boolean) (rmOf 0 0) (fun E => [.int a1, .int a2, .int a3]) s0 (fX12_in a1 a2 a3 s0) := by
  refine Cti.of (by decide) rfl (lv := fun E => [(0, .int a1), (1, .int a2), (2, .int a3)]) (fun _ => Nat.le_of_ble_eq_true rfl) (fun _ => rfl) (fun Γ hΓ _ C => ?_)
  subst hΓ
  unfold fX12_in
  refine rf_iload_n C dX12_in_0 rfl 0 rfl ?_
  refine rf_iload_n C dX12_in_1 rfl 1 rfl ?_
  refine rf_icmp_lt C 14 dX12_in_2 (by decide) (fun _ => ?_) (fun _ => ?_)
  · refine rf_iconst C (v := (nI 0)) dX12_in_14 rfl ?_
    exact rf_zret C rfl dX12_in_15
  refine rf_iload_n C dX12_in_5 rfl 0 rfl ?_
  refine rf_iload_n C dX12_in_6 rfl 2 rfl ?_
  refine rf_icmp_gt C 14 dX12_in_7 (by decide) (fun _ => ?_) (fun _ => ?_)
  · refine rf_iconst C (v := (nI 0)) dX12_in_14 rfl ?_
    exact rf_zret C rfl dX12_in_15
  refine rf_iconst C (v := (nI 1)) dX12_in_10 rfl ?_
  refine rf_goto C 15 dX12_in_11 (by decide) ?_
  exact rf_zret C rfl dX12_in_15

def fX12_type (a1 : Int32) (s0 : PH) : Option (Int32 × PH) :=
(bd (fX12_in a1 (nI 33) (nI 126) s0) fun (r2 : Int32) (s1 : PH) =>
(if r2 = 0 then
(some ((-1 : Int32), s1))
else
(if (s1.1 148 4) = (nI 100) then
(some ((-3 : Int32), s1))
else
(wa 100 (s1.1 148 4) (lt (si s1 151 (s1.1 148 4).toNatClampNeg a1) fun (s3 : PH) =>
(lt (si s3 148 4 ((s3.1 148 4) + (nI 1))) fun (s4 : PH) =>
(some ((s4.1 148 4), s4))))))))
set_option maxRecDepth 20000 in
set_option maxHeartbeats 2000000 in
theorem mX12_type (l : Launch) (a1 : Int32) (s0 : PH) : Cti 174 l yX12_type cX12_type 2 (some .int) (rmOf 1 22) (fun E => [.ref (E.2.1 148), .int a1]) s0 (fX12_type a1 s0) := by
  refine Cti.of (by decide) rfl (lv := fun E => [(0, .ref (E.2.1 148)), (1, .int a1)]) (fun _ => Nat.le_of_ble_eq_true rfl) (fun _ => rfl) (fun Γ hΓ _ C => ?_)
  subst hΓ
  unfold fX12_type
  refine rf_iload_n C dX12_type_0 rfl 1 rfl ?_
  refine rf_bipush C (v := (nI 33)) dX12_type_1 rfl ?_
  refine rf_bipush C (v := (nI 126)) dX12_type_3 rfl ?_
  refine rf_callSi C (rmc := rmOf 0 0) [.int a1, .int (nI 33), .int (nI 126)] (by decide) (mX12_in (gL Γ) a1 (nI 33) (nI 126) s0) mfX12_in msX12_in mlX12_98 rfl rfl rfl (Nat.le_of_ble_eq_true rfl) ⟨Nat.le_of_ble_eq_true rfl, Nat.le_of_ble_eq_true rfl⟩ dX12_type_5 (fun r2 s1 => ?_)
  refine rf_if_ne C 13 dX12_type_8 (by decide) (fun _ => ?_) (fun _ => ?_)
  · refine rf_aload_n C dX12_type_13 rfl 0 rfl ?_
    refine rf_get C (v := .int (s1.1 148 4)) cfX12 flX12_185 (by decide) oX12 rfl dX12_type_14 ?_
    refine rf_bipush C (v := (nI 100)) dX12_type_17 rfl ?_
    refine rf_icmp_ne C 25 dX12_type_19 (by decide) (fun _ => ?_) (fun _ => ?_)
    · refine rf_aload_n C dX12_type_25 rfl 0 rfl ?_
      refine rf_get C (v := .ref ((gE Γ).2.1 151)) cfX12 flX12_16 (by decide) oX12 rfl dX12_type_26 ?_
      refine rf_aload_n C dX12_type_29 rfl 0 rfl ?_
      refine rf_get C (v := .int (s1.1 148 4)) cfX12 flX12_185 (by decide) oX12 rfl dX12_type_30 ?_
      refine rf_iload_n C dX12_type_33 rfl 1 rfl ?_
      refine rf_iast C ar151 dX12_type_34 (fun s3 => ?_)
      refine rf_aload_n C dX12_type_35 rfl 0 rfl ?_
      refine rf_dup C dX12_type_36 rfl ?_
      refine rf_get C (v := .int (s3.1 148 4)) cfX12 flX12_185 (by decide) oX12 rfl dX12_type_37 ?_
      refine rf_iconst C (v := (nI 1)) dX12_type_40 rfl ?_
      refine rf_iadd C dX12_type_41 ?_
      refine rf_puti C cfX12 flX12_185 (by decide) rfl oX12 (fty := .int) rfl rfl rfl (fun _ _ _ _ => Nat.le_of_ble_eq_true rfl) (fun _ _ _ _ => rfl) dX12_type_42 (fun s4 => ?_)
      refine rf_aload_n C dX12_type_45 rfl 0 rfl ?_
      refine rf_get C (v := .int (s4.1 148 4)) cfX12 flX12_185 (by decide) oX12 rfl dX12_type_46 ?_
      exact rf_iret C dX12_type_49
    refine rf_bipush C (v := (-3 : Int32)) dX12_type_22 rfl ?_
    exact rf_iret C dX12_type_24
  refine rf_iconst C (v := (-1 : Int32)) dX12_type_11 rfl ?_
  exact rf_iret C dX12_type_12

def fX12_clear (s0 : PH) : Option (Int32 × PH) :=
(lt (s0.1 148 4) fun (v1 : Int32) =>
(lt (si s0 148 4 (nI 0)) fun (s2 : PH) =>
(some (v1, s2))))
set_option maxRecDepth 20000 in
set_option maxHeartbeats 2000000 in
theorem mX12_clear (l : Launch) (s0 : PH) : Cti 174 l yX12_clear cX12_clear 2 (some .int) (rmOf 0 0) (fun E => [.ref (E.2.1 148)]) s0 (fX12_clear s0) := by
  refine Cti.of (by decide) rfl (lv := fun E => [(0, .ref (E.2.1 148))]) (fun _ => Nat.le_of_ble_eq_true rfl) (fun _ => rfl) (fun Γ hΓ _ C => ?_)
  subst hΓ
  unfold fX12_clear
  refine rf_aload_n C dX12_clear_0 rfl 0 rfl ?_
  refine rf_get C (v := .int (s0.1 148 4)) cfX12 flX12_185 (by decide) oX12 rfl dX12_clear_1 ?_
  refine rf_istore_n C (fun v1 => [(1, .int v1), (0, .ref ((gE Γ).2.1 148))]) dX12_clear_4 rfl (by decide) (fun _ => rfl) (fun v1 => ?_)
  refine rf_aload_n C dX12_clear_5 rfl 1 rfl ?_
  refine rf_iconst C (v := (nI 0)) dX12_clear_6 rfl ?_
  refine rf_puti C cfX12 flX12_185 (by decide) rfl oX12 (fty := .int) rfl rfl rfl (fun _ _ _ _ => Nat.le_of_ble_eq_true rfl) (fun _ _ _ _ => rfl) dX12_clear_7 (fun s2 => ?_)
  refine rf_iload_n C dX12_clear_10 rfl 0 rfl ?_
  exact rf_iret C dX12_clear_11

def fX12_isAt (a1 : Int32) (a2 : Int32) (s0 : PH) : Option (Int32 × PH) :=
(if (s0.1 148 4) ≤ (s0.1 148 21) then
(some ((nI 0), s0))
else
(ra 100 (s0.1 148 21) (s0.1 151) fun (v1 : Int32) =>
(bd (fX12_in v1 a1 a2 s0) fun (r3 : Int32) (s2 : PH) =>
(if r3 = 0 then
(some ((nI 0), s2))
else
(some ((nI 1), s2))))))
set_option maxRecDepth 20000 in
set_option maxHeartbeats 2000000 in
theorem mX12_isAt (l : Launch) (a1 : Int32) (a2 : Int32) (s0 : PH) : Cti 174 l yX12_isAt cX12_isAt 3 (some .boolean) (rmOf 1 22) (fun E => [.ref (E.2.1 148), .int a1, .int a2]) s0 (fX12_isAt a1 a2 s0) := by
  refine Cti.of (by decide) rfl (lv := fun E => [(0, .ref (E.2.1 148)), (1, .int a1), (2, .int a2)]) (fun _ => Nat.le_of_ble_eq_true rfl) (fun _ => rfl) (fun Γ hΓ _ C => ?_)
  subst hΓ
  unfold fX12_isAt
  refine rf_aload_n C dX12_isAt_0 rfl 0 rfl ?_
  refine rf_get C (v := .int (s0.1 148 21)) cfX12 flX12_188 (by decide) oX12 rfl dX12_isAt_1 ?_
  refine rf_aload_n C dX12_isAt_4 rfl 0 rfl ?_
  refine rf_get C (v := .int (s0.1 148 4)) cfX12 flX12_185 (by decide) oX12 rfl dX12_isAt_5 ?_
  refine rf_icmp_ge C 32 dX12_isAt_8 (by decide) (fun _ => ?_) (fun _ => ?_)
  · refine rf_iconst C (v := (nI 0)) dX12_isAt_32 rfl ?_
    exact rf_zret C rfl dX12_isAt_33
  refine rf_aload_n C dX12_isAt_11 rfl 0 rfl ?_
  refine rf_get C (v := .ref ((gE Γ).2.1 151)) cfX12 flX12_16 (by decide) oX12 rfl dX12_isAt_12 ?_
  refine rf_aload_n C dX12_isAt_15 rfl 0 rfl ?_
  refine rf_get C (v := .int (s0.1 148 21)) cfX12 flX12_188 (by decide) oX12 rfl dX12_isAt_16 ?_
  refine rf_iald C ar151 dX12_isAt_19 (fun v1 => ?_)
  refine rf_iload_n C dX12_isAt_20 rfl 1 rfl ?_
  refine rf_iload_n C dX12_isAt_21 rfl 2 rfl ?_
  refine rf_callSi C (rmc := rmOf 0 0) [.int v1, .int a1, .int a2] (by decide) (mX12_in (gL Γ) v1 a1 a2 s0) mfX12_in msX12_in mlX12_98 rfl rfl rfl (Nat.le_of_ble_eq_true rfl) ⟨Nat.le_of_ble_eq_true rfl, Nat.le_of_ble_eq_true rfl⟩ dX12_isAt_22 (fun r3 s2 => ?_)
  refine rf_if_eq C 32 dX12_isAt_25 (by decide) (fun _ => ?_) (fun _ => ?_)
  · refine rf_iconst C (v := (nI 0)) dX12_isAt_32 rfl ?_
    exact rf_zret C rfl dX12_isAt_33
  refine rf_iconst C (v := (nI 1)) dX12_isAt_28 rfl ?_
  refine rf_goto C 33 dX12_isAt_29 (by decide) ?_
  exact rf_zret C rfl dX12_isAt_33

def fX12_takes (a1 : Int32) (s0 : PH) : Option (Int32 × PH) :=
(bd (fX12_isAt a1 a1 s0) fun (r2 : Int32) (s1 : PH) =>
(lt r2 fun (v3 : Int32) =>
(jn (fun (v4 : Int32) (s5 : PH) =>
(lt (si s5 148 21 ((s1.1 148 21) + v4)) fun (s7 : PH) =>
(jn (fun (v8 : Int32) (s9 : PH) =>
(lt (si s9 148 22 v8) fun (s11 : PH) =>
(rz v3 s11))) (fun (j10 : Int32 → PH → Option (Int32 × PH)) =>
(if v3 = 0 then
(j10 (nI 1) s7)
else
(j10 (s7.1 148 22) s7)))))) (fun (j6 : Int32 → PH → Option (Int32 × PH)) =>
(if v3 = 0 then
(j6 (nI 0) s1)
else
(j6 (nI 1) s1))))))
set_option maxRecDepth 20000 in
set_option maxHeartbeats 2000000 in
theorem mX12_takes (l : Launch) (a1 : Int32) (s0 : PH) : Cti 174 l yX12_takes cX12_takes 3 (some .boolean) (rmOf 2 44) (fun E => [.ref (E.2.1 148), .int a1]) s0 (fX12_takes a1 s0) := by
  refine Cti.of (by decide) rfl (lv := fun E => [(0, .ref (E.2.1 148)), (1, .int a1)]) (fun _ => Nat.le_of_ble_eq_true rfl) (fun _ => rfl) (fun Γ hΓ _ C => ?_)
  subst hΓ
  unfold fX12_takes
  refine rf_aload_n C dX12_takes_0 rfl 0 rfl ?_
  refine rf_iload_n C dX12_takes_1 rfl 1 rfl ?_
  refine rf_iload_n C dX12_takes_2 rfl 1 rfl ?_
  refine rf_callVi C (rmc := rmOf 1 22) [.int a1, .int a1] (by decide) (mX12_isAt (gL Γ) a1 a1 s0) mfX12_isAt mvX12_isAt mlX12_191 rfl oX12 rfl rfl rfl (Nat.le_of_ble_eq_true rfl) ⟨Nat.le_of_ble_eq_true rfl, Nat.le_of_ble_eq_true rfl⟩ dX12_takes_3 (fun r2 s1 => ?_)
  refine rf_istore_n C (fun v3 => [(2, .int v3), (0, .ref ((gE Γ).2.1 148)), (1, .int a1)]) dX12_takes_6 rfl (by decide) (fun _ => rfl) (fun v3 => ?_)
  refine rf_aload_n C dX12_takes_7 rfl 1 rfl ?_
  refine rf_dup C dX12_takes_8 rfl ?_
  refine rf_get C (v := .int (s1.1 148 21)) cfX12 flX12_188 (by decide) oX12 rfl dX12_takes_9 ?_
  refine rf_iload_n C dX12_takes_12 rfl 0 rfl ?_
  refine rf_jn2 (fun _ _ => True) (fun _ s5 => s5) (fun v4 s5 => [(0, .ref ((gE Γ).2.1 148)), (2, .int v3)]) (fun v4 s5 => [.int v4, .int (s1.1 148 21), .ref ((gE Γ).2.1 148)]) 21 (fun v4 s5 _ => ?_) (fun j6 hj6 => ?_)
  · refine rf_iadd C dX12_takes_21 ?_
    refine rf_puti C cfX12 flX12_188 (by decide) rfl oX12 (fty := .int) rfl rfl rfl (fun _ _ _ _ => Nat.le_of_ble_eq_true rfl) (fun _ _ _ _ => rfl) dX12_takes_22 (fun s7 => ?_)
    refine rf_aload_n C dX12_takes_25 rfl 0 rfl ?_
    refine rf_iload_n C dX12_takes_26 rfl 1 rfl ?_
    refine rf_jn2 (fun _ _ => True) (fun _ s9 => s9) (fun v8 s9 => [(2, .int v3)]) (fun v8 s9 => [.int v8, .ref ((gE Γ).2.1 148)]) 38 (fun v8 s9 _ => ?_) (fun j10 hj10 => ?_)
    · refine rf_puti C cfX12 flX12_195 (by decide) rfl oX12 (fty := .int) rfl rfl rfl (fun _ _ _ _ => Nat.le_of_ble_eq_true rfl) (fun _ _ _ _ => rfl) dX12_takes_38 (fun s11 => ?_)
      refine rf_iload_n C dX12_takes_41 rfl 0 rfl ?_
      exact rf_zretv C dX12_takes_42
    refine rf_if_eq C 37 dX12_takes_27 (by decide) (fun _ => ?_) (fun _ => ?_)
    · refine rf_iconst C (v := (nI 1)) dX12_takes_37 rfl ?_
      exact rf_sub [1] rfl (hj10 (nI 1) s7 trivial)
    refine rf_aload_n C dX12_takes_30 rfl 0 rfl ?_
    refine rf_get C (v := .int (s7.1 148 22)) cfX12 flX12_195 (by decide) oX12 rfl dX12_takes_31 ?_
    refine rf_goto C 38 dX12_takes_34 (by decide) ?_
    exact rf_sub [1] rfl (hj10 (s7.1 148 22) s7 trivial)
  refine rf_if_eq C 20 dX12_takes_13 (by decide) (fun _ => ?_) (fun _ => ?_)
  · refine rf_iconst C (v := (nI 0)) dX12_takes_20 rfl ?_
    exact rf_sub [1, 0] rfl (hj6 (nI 0) s1 trivial)
  refine rf_iconst C (v := (nI 1)) dX12_takes_16 rfl ?_
  refine rf_goto C 21 dX12_takes_17 (by decide) ?_
  exact rf_sub [1, 0] rfl (hj6 (nI 1) s1 trivial)

def fX12_readsSide (n : Nat) (a1 : Int32) (s0 : PH) : Option (Int32 × PH) :=
(ra 113 (nI 0) (s0.1 165) fun (v1 : Int32) =>
(if v1 = (nI 16) then
(lt (si s0 148 22 (nI 3)) fun (s30 : PH) =>
(some ((nI 0), s30)))
else
(ra 113 (nI 0) (s0.1 165) fun (v2 : Int32) =>
(lt v2 fun (v3 : Int32) =>
(wa 113 ((nI 1) + v3) (lt (si s0 165 ((nI 1) + v3).toNatClampNeg a1) fun (s4 : PH) =>
(wa 113 ((nI 17) + v3) (lt (si s4 165 ((nI 17) + v3).toNatClampNeg (nI 0)) fun (s5 : PH) =>
(ra 113 (nI 0) (s5.1 165) fun (v6 : Int32) =>
(wa 113 (nI 0) (lt (si s5 165 (nI 0).toNatClampNeg (v6 + (nI 1))) fun (s7 : PH) =>
(loo1 (fun (recrec9 : PH → Option (Int32 × PH))  (s8 : PH) =>
(bd (fX12_isAt (nI 97) (nI 101) s8) fun (r11 : Int32) (s10 : PH) =>
(jn (fun (s12 : PH) =>
(ra 113 ((nI 17) + v3) (s12.1 165) fun (v14 : Int32) =>
(if v14 = (nI 5) then
(lt (si s12 148 22 (nI 4)) fun (s27 : PH) =>
(some ((nI 0), s27)))
else
(ra 113 ((nI 17) + v3) (s12.1 165) fun (v15 : Int32) =>
(bd (fX12_isAt (nI 97) (nI 101) s12) fun (r17 : Int32) (s16 : PH) =>
(jn (fun (v18 : Int32) (s19 : PH) =>
(wa 113 (((nI 33) + ((nI 5) * v3)) + v15) (lt (si s19 165 (((nI 33) + ((nI 5) * v3)) + v15).toNatClampNeg v18) fun (s21 : PH) =>
(ra 113 ((nI 17) + v3) (s21.1 165) fun (v22 : Int32) =>
(wa 113 ((nI 17) + v3) (lt (si s21 165 ((nI 17) + v3).toNatClampNeg (v22 + (nI 1))) fun (s23 : PH) =>
(lt (si s23 148 21 ((s23.1 148 21) + (nI 1))) fun (s24 : PH) =>
(recrec9 s24)))))))) (fun (j20 : Int32 → PH → Option (Int32 × PH)) =>
(if r17 = 0 then
(ra 100 (s16.1 148 21) (s16.1 151) fun (v25 : Int32) =>
(j20 (((nI 10) + v25) - (nI 65)) s16))
else
(ra 100 (s16.1 148 21) (s16.1 151) fun (v26 : Int32) =>
(j20 (v26 - (nI 97)) s16)))))))))) (fun (j13 : PH → Option (Int32 × PH)) =>
(if r11 = 0 then
(bd (fX12_isAt (nI 65) (nI 70) s10) fun (r29 : Int32) (s28 : PH) =>
(if r29 = 0 then
(some ((nI 1), s28))
else
(j13 s28)))
else
(j13 s10)))))) n s7))))))))))))
set_option maxRecDepth 20000 in
set_option maxHeartbeats 2000000 in
theorem mX12_readsSide (l : Launch) (n : Nat) (a1 : Int32) (s0 : PH) : Cti 174 l yX12_readsSide cX12_readsSide 3 (some .boolean) (rmOf 2 44) (fun E => [.ref (E.2.1 148), .int a1]) s0 (fX12_readsSide n a1 s0) := by
  refine Cti.of (by decide) rfl (lv := fun E => [(0, .ref (E.2.1 148)), (1, .int a1)]) (fun _ => Nat.le_of_ble_eq_true rfl) (fun _ => rfl) (fun Γ hΓ _ C => ?_)
  subst hΓ
  unfold fX12_readsSide
  refine rf_aload_n C dX12_readsSide_0 rfl 0 rfl ?_
  refine rf_get C (v := .ref ((gE Γ).2.1 165)) cfX12 flX12_63 (by decide) oX12 rfl dX12_readsSide_1 ?_
  refine rf_iconst C (v := (nI 0)) dX12_readsSide_4 rfl ?_
  refine rf_iald C ar165 dX12_readsSide_5 (fun v1 => ?_)
  refine rf_bipush C (v := (nI 16)) dX12_readsSide_6 rfl ?_
  refine rf_icmp_ne C 18 dX12_readsSide_8 (by decide) (fun _ => ?_) (fun _ => ?_)
  · refine rf_aload_n C dX12_readsSide_18 rfl 0 rfl ?_
    refine rf_get C (v := .ref ((gE Γ).2.1 165)) cfX12 flX12_63 (by decide) oX12 rfl dX12_readsSide_19 ?_
    refine rf_iconst C (v := (nI 0)) dX12_readsSide_22 rfl ?_
    refine rf_iald C ar165 dX12_readsSide_23 (fun v2 => ?_)
    refine rf_istore_n C (fun v3 => [(2, .int v3), (0, .ref ((gE Γ).2.1 148)), (1, .int a1)]) dX12_readsSide_24 rfl (by decide) (fun _ => rfl) (fun v3 => ?_)
    refine rf_aload_n C dX12_readsSide_25 rfl 1 rfl ?_
    refine rf_get C (v := .ref ((gE Γ).2.1 165)) cfX12 flX12_63 (by decide) oX12 rfl dX12_readsSide_26 ?_
    refine rf_iconst C (v := (nI 1)) dX12_readsSide_29 rfl ?_
    refine rf_iload_n C dX12_readsSide_30 rfl 0 rfl ?_
    refine rf_iadd C dX12_readsSide_31 ?_
    refine rf_iload_n C dX12_readsSide_32 rfl 2 rfl ?_
    refine rf_iast C ar165 dX12_readsSide_33 (fun s4 => ?_)
    refine rf_aload_n C dX12_readsSide_34 rfl 1 rfl ?_
    refine rf_get C (v := .ref ((gE Γ).2.1 165)) cfX12 flX12_63 (by decide) oX12 rfl dX12_readsSide_35 ?_
    refine rf_bipush C (v := (nI 17)) dX12_readsSide_38 rfl ?_
    refine rf_iload_n C dX12_readsSide_40 rfl 0 rfl ?_
    refine rf_iadd C dX12_readsSide_41 ?_
    refine rf_iconst C (v := (nI 0)) dX12_readsSide_42 rfl ?_
    refine rf_iast C ar165 dX12_readsSide_43 (fun s5 => ?_)
    refine rf_aload_n C dX12_readsSide_44 rfl 1 rfl ?_
    refine rf_get C (v := .ref ((gE Γ).2.1 165)) cfX12 flX12_63 (by decide) oX12 rfl dX12_readsSide_45 ?_
    refine rf_iconst C (v := (nI 0)) dX12_readsSide_48 rfl ?_
    refine rf_dup2 C dX12_readsSide_49 rfl rfl ?_
    refine rf_iald C ar165 dX12_readsSide_50 (fun v6 => ?_)
    refine rf_iconst C (v := (nI 1)) dX12_readsSide_51 rfl ?_
    refine rf_iadd C dX12_readsSide_52 ?_
    refine rf_iast C ar165 dX12_readsSide_53 (fun s7 => ?_)
    refine rf_sub [1, 0] rfl ?_
    refine rf_loo1 (fun _ => True) (fun  s8 => s8) (fun s8 => [(0, .ref ((gE Γ).2.1 148)), (2, .int v3)]) (fun recrec9 hrec9 s8 _ => ?_) n s7 trivial
    refine rf_aload_n C dX12_readsSide_54 rfl 0 rfl ?_
    refine rf_bipush C (v := (nI 97)) dX12_readsSide_55 rfl ?_
    refine rf_bipush C (v := (nI 101)) dX12_readsSide_57 rfl ?_
    refine rf_callVi C (rmc := rmOf 1 22) [.int (nI 97), .int (nI 101)] (by decide) (mX12_isAt (gL Γ) (nI 97) (nI 101) s8) mfX12_isAt mvX12_isAt mlX12_191 rfl oX12 rfl rfl rfl (Nat.le_of_ble_eq_true rfl) ⟨Nat.le_of_ble_eq_true rfl, Nat.le_of_ble_eq_true rfl⟩ dX12_readsSide_59 (fun r11 s10 => ?_)
    refine rf_jn1 (fun _ => True) (fun  s12 => s12) (fun s12 => [(0, .ref ((gE Γ).2.1 148)), (2, .int v3)]) (fun s12 => []) 76 (fun s12 _ => ?_) (fun j13 hj13 => ?_)
    · refine rf_aload_n C dX12_readsSide_76 rfl 0 rfl ?_
      refine rf_get C (v := .ref ((gE Γ).2.1 165)) cfX12 flX12_63 (by decide) oX12 rfl dX12_readsSide_77 ?_
      refine rf_bipush C (v := (nI 17)) dX12_readsSide_80 rfl ?_
      refine rf_iload_n C dX12_readsSide_82 rfl 1 rfl ?_
      refine rf_iadd C dX12_readsSide_83 ?_
      refine rf_iald C ar165 dX12_readsSide_84 (fun v14 => ?_)
      refine rf_iconst C (v := (nI 5)) dX12_readsSide_85 rfl ?_
      refine rf_icmp_ne C 96 dX12_readsSide_86 (by decide) (fun _ => ?_) (fun _ => ?_)
      · refine rf_aload_n C dX12_readsSide_96 rfl 0 rfl ?_
        refine rf_get C (v := .ref ((gE Γ).2.1 165)) cfX12 flX12_63 (by decide) oX12 rfl dX12_readsSide_97 ?_
        refine rf_bipush C (v := (nI 33)) dX12_readsSide_100 rfl ?_
        refine rf_iconst C (v := (nI 5)) dX12_readsSide_102 rfl ?_
        refine rf_iload_n C dX12_readsSide_103 rfl 1 rfl ?_
        refine rf_imul C dX12_readsSide_104 ?_
        refine rf_iadd C dX12_readsSide_105 ?_
        refine rf_aload_n C dX12_readsSide_106 rfl 0 rfl ?_
        refine rf_get C (v := .ref ((gE Γ).2.1 165)) cfX12 flX12_63 (by decide) oX12 rfl dX12_readsSide_107 ?_
        refine rf_bipush C (v := (nI 17)) dX12_readsSide_110 rfl ?_
        refine rf_iload_n C dX12_readsSide_112 rfl 1 rfl ?_
        refine rf_iadd C dX12_readsSide_113 ?_
        refine rf_iald C ar165 dX12_readsSide_114 (fun v15 => ?_)
        refine rf_iadd C dX12_readsSide_115 ?_
        refine rf_aload_n C dX12_readsSide_116 rfl 0 rfl ?_
        refine rf_bipush C (v := (nI 97)) dX12_readsSide_117 rfl ?_
        refine rf_bipush C (v := (nI 101)) dX12_readsSide_119 rfl ?_
        refine rf_callVi C (rmc := rmOf 1 22) [.int (nI 97), .int (nI 101)] (by decide) (mX12_isAt (gL Γ) (nI 97) (nI 101) s12) mfX12_isAt mvX12_isAt mlX12_191 rfl oX12 rfl rfl rfl (Nat.le_of_ble_eq_true rfl) ⟨Nat.le_of_ble_eq_true rfl, Nat.le_of_ble_eq_true rfl⟩ dX12_readsSide_121 (fun r17 s16 => ?_)
        refine rf_jn2 (fun _ _ => True) (fun _ s19 => s19) (fun v18 s19 => [(0, .ref ((gE Γ).2.1 148)), (2, .int v3)]) (fun v18 s19 => [.int v18, .int (((nI 33) + ((nI 5) * v3)) + v15), .ref ((gE Γ).2.1 165)]) 157 (fun v18 s19 _ => ?_) (fun j20 hj20 => ?_)
        · refine rf_iast C ar165 dX12_readsSide_157 (fun s21 => ?_)
          refine rf_aload_n C dX12_readsSide_158 rfl 0 rfl ?_
          refine rf_get C (v := .ref ((gE Γ).2.1 165)) cfX12 flX12_63 (by decide) oX12 rfl dX12_readsSide_159 ?_
          refine rf_bipush C (v := (nI 17)) dX12_readsSide_162 rfl ?_
          refine rf_iload_n C dX12_readsSide_164 rfl 1 rfl ?_
          refine rf_iadd C dX12_readsSide_165 ?_
          refine rf_dup2 C dX12_readsSide_166 rfl rfl ?_
          refine rf_iald C ar165 dX12_readsSide_167 (fun v22 => ?_)
          refine rf_iconst C (v := (nI 1)) dX12_readsSide_168 rfl ?_
          refine rf_iadd C dX12_readsSide_169 ?_
          refine rf_iast C ar165 dX12_readsSide_170 (fun s23 => ?_)
          refine rf_aload_n C dX12_readsSide_171 rfl 0 rfl ?_
          refine rf_dup C dX12_readsSide_172 rfl ?_
          refine rf_get C (v := .int (s23.1 148 21)) cfX12 flX12_188 (by decide) oX12 rfl dX12_readsSide_173 ?_
          refine rf_iconst C (v := (nI 1)) dX12_readsSide_176 rfl ?_
          refine rf_iadd C dX12_readsSide_177 ?_
          refine rf_puti C cfX12 flX12_188 (by decide) rfl oX12 (fty := .int) rfl rfl rfl (fun _ _ _ _ => Nat.le_of_ble_eq_true rfl) (fun _ _ _ _ => rfl) dX12_readsSide_178 (fun s24 => ?_)
          refine rf_goto C 54 dX12_readsSide_181 (by decide) ?_
          exact rf_sub [0, 1] rfl (hrec9 s24 trivial)
        refine rf_if_eq C 142 dX12_readsSide_124 (by decide) (fun _ => ?_) (fun _ => ?_)
        · refine rf_bipush C (v := (nI 10)) dX12_readsSide_142 rfl ?_
          refine rf_aload_n C dX12_readsSide_144 rfl 0 rfl ?_
          refine rf_get C (v := .ref ((gE Γ).2.1 151)) cfX12 flX12_16 (by decide) oX12 rfl dX12_readsSide_145 ?_
          refine rf_aload_n C dX12_readsSide_148 rfl 0 rfl ?_
          refine rf_get C (v := .int (s16.1 148 21)) cfX12 flX12_188 (by decide) oX12 rfl dX12_readsSide_149 ?_
          refine rf_iald C ar151 dX12_readsSide_152 (fun v25 => ?_)
          refine rf_iadd C dX12_readsSide_153 ?_
          refine rf_bipush C (v := (nI 65)) dX12_readsSide_154 rfl ?_
          refine rf_isub C dX12_readsSide_156 ?_
          exact rf_sub [0, 1] rfl (hj20 (((nI 10) + v25) - (nI 65)) s16 trivial)
        refine rf_aload_n C dX12_readsSide_127 rfl 0 rfl ?_
        refine rf_get C (v := .ref ((gE Γ).2.1 151)) cfX12 flX12_16 (by decide) oX12 rfl dX12_readsSide_128 ?_
        refine rf_aload_n C dX12_readsSide_131 rfl 0 rfl ?_
        refine rf_get C (v := .int (s16.1 148 21)) cfX12 flX12_188 (by decide) oX12 rfl dX12_readsSide_132 ?_
        refine rf_iald C ar151 dX12_readsSide_135 (fun v26 => ?_)
        refine rf_bipush C (v := (nI 97)) dX12_readsSide_136 rfl ?_
        refine rf_isub C dX12_readsSide_138 ?_
        refine rf_goto C 157 dX12_readsSide_139 (by decide) ?_
        exact rf_sub [0, 1] rfl (hj20 (v26 - (nI 97)) s16 trivial)
      refine rf_aload_n C dX12_readsSide_89 rfl 0 rfl ?_
      refine rf_iconst C (v := (nI 4)) dX12_readsSide_90 rfl ?_
      refine rf_puti C cfX12 flX12_195 (by decide) rfl oX12 (fty := .int) rfl rfl rfl (fun _ _ _ _ => Nat.le_of_ble_eq_true rfl) (fun _ _ _ _ => rfl) dX12_readsSide_91 (fun s27 => ?_)
      refine rf_iconst C (v := (nI 0)) dX12_readsSide_94 rfl ?_
      exact rf_zret C rfl dX12_readsSide_95
    refine rf_if_ne C 76 dX12_readsSide_62 (by decide) (fun _ => ?_) (fun _ => ?_)
    · exact rf_sub [0, 1] rfl (hj13 s10 trivial)
    refine rf_aload_n C dX12_readsSide_65 rfl 0 rfl ?_
    refine rf_bipush C (v := (nI 65)) dX12_readsSide_66 rfl ?_
    refine rf_bipush C (v := (nI 70)) dX12_readsSide_68 rfl ?_
    refine rf_callVi C (rmc := rmOf 1 22) [.int (nI 65), .int (nI 70)] (by decide) (mX12_isAt (gL Γ) (nI 65) (nI 70) s10) mfX12_isAt mvX12_isAt mlX12_191 rfl oX12 rfl rfl rfl (Nat.le_of_ble_eq_true rfl) ⟨Nat.le_of_ble_eq_true rfl, Nat.le_of_ble_eq_true rfl⟩ dX12_readsSide_70 (fun r29 s28 => ?_)
    refine rf_if_eq C 184 dX12_readsSide_73 (by decide) (fun _ => ?_) (fun _ => ?_)
    · refine rf_iconst C (v := (nI 1)) dX12_readsSide_184 rfl ?_
      exact rf_zret C rfl dX12_readsSide_185
    exact rf_sub [0, 1] rfl (hj13 s28 trivial)
  refine rf_aload_n C dX12_readsSide_11 rfl 0 rfl ?_
  refine rf_iconst C (v := (nI 3)) dX12_readsSide_12 rfl ?_
  refine rf_puti C cfX12 flX12_195 (by decide) rfl oX12 (fty := .int) rfl rfl rfl (fun _ _ _ _ => Nat.le_of_ble_eq_true rfl) (fun _ _ _ _ => rfl) dX12_readsSide_13 (fun s30 => ?_)
  refine rf_iconst C (v := (nI 0)) dX12_readsSide_16 rfl ?_
  exact rf_zret C rfl dX12_readsSide_17

