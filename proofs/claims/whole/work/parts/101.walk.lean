def fX12_laysFirsts (n : Nat) (s0 : PH) : Option (Unit × PH) :=
(lt (nI 0) fun (v1 : Int32) =>
(loo2 (fun (recrec4 : Int32 → PH → Option (Unit × PH)) (v2 : Int32) (s3 : PH) =>
(if (nI 1296) ≤ v2 then
(lt (nI 1) fun (v5 : Int32) =>
(loo2 (fun (recrec8 : Int32 → PH → Option (Unit × PH)) (v6 : Int32) (s7 : PH) =>
(if v6 = 0 then
(some ((), s7))
else
(lt (nI 0) fun (v9 : Int32) =>
(lt (nI 0) fun (v10 : Int32) =>
(loo3 (fun (recrec14 : Int32 → Int32 → PH → Option (Unit × PH)) (v11 : Int32) (v12 : Int32) (s13 : PH) =>
(bd (fX12_many s13) fun (r16 : Int32) (s15 : PH) =>
(if r16 ≤ v12 then
(recrec8 v11 s15)
else
(bd (fX12_begin n s15) fun _ (s17 : PH) =>
(bd (fX12_joinsSymbols n v12 (nI 0) s17) fun _ (s18 : PH) =>
(bd (fX12_left v12 s18) fun (r20 : Int32) (s19 : PH) =>
(bd (fX12_enters n 158 1296 ((nI 216) * r20) s19) fun (r22 : Int32) (s21 : PH) =>
(jn (fun (v23 : Int32) (s24 : PH) =>
(lt v23 fun (v26 : Int32) =>
(lt (v12 + (nI 1)) fun (v27 : Int32) =>
(recrec14 v26 v27 s24)))) (fun (j25 : Int32 → PH → Option (Unit × PH)) =>
(jn (fun (s28 : PH) =>
(j25 (nI 1) s28)) (fun (j29 : PH → Option (Unit × PH)) =>
(if r22 = 0 then
(if v11 = 0 then
(j25 (nI 0) s21)
else
(j29 s21))
else
(j29 s21))))))))))))) n v9 v10 s7))))) n v5 s3))
else
(wa 1296 v2 (lt (si s3 158 v2.toNatClampNeg (nz (nI 0))) fun (s30 : PH) =>
(lt (v2 + (nI 1)) fun (v31 : Int32) =>
(recrec4 v31 s30)))))) n v1 s0))
set_option maxRecDepth 20000 in
set_option maxHeartbeats 2000000 in
theorem mX12_laysFirsts (l : Launch) (n : Nat) (s0 : PH) : Ctv 174 l yX12_laysFirsts cX12_laysFirsts 3 none (rmOf 5 113) (fun E => [.ref (E.2.1 148)]) s0 (fX12_laysFirsts n s0) := by
  refine Ctv.of (by decide) rfl (lv := fun E => [(0, .ref (E.2.1 148))]) (fun _ => Nat.le_of_ble_eq_true rfl) (fun _ => rfl) (fun Γ hΓ _ C => ?_)
  subst hΓ
  unfold fX12_laysFirsts
  refine rf_iconst C (v := (nI 0)) dX12_laysFirsts_0 rfl ?_
  refine rf_istore_n C (fun v1 => [(1, .int v1), (0, .ref ((gE Γ).2.1 148))]) dX12_laysFirsts_1 rfl (by decide) (fun _ => rfl) (fun v1 => ?_)
  refine rf_sub [1, 0] rfl ?_
  refine rf_loo2 (fun _ _ => True) (fun _ s3 => s3) (fun v2 s3 => [(0, .ref ((gE Γ).2.1 148)), (1, .int v2)]) (fun recrec4 hrec4 v2 s3 _ => ?_) n v1 s0 trivial
  refine rf_iload_n C dX12_laysFirsts_2 rfl 1 rfl ?_
  refine rf_sipush C (v := (nI 1296)) dX12_laysFirsts_3 rfl ?_
  refine rf_icmp_ge C 22 dX12_laysFirsts_6 (by decide) (fun _ => ?_) (fun _ => ?_)
  · refine rf_iconst C (v := (nI 1)) dX12_laysFirsts_22 rfl ?_
    refine rf_istore_n C (fun v5 => [(1, .int v5), (0, .ref ((gE Γ).2.1 148))]) dX12_laysFirsts_23 rfl (by decide) (fun _ => rfl) (fun v5 => ?_)
    refine rf_sub [1, 0] rfl ?_
    refine rf_loo2 (fun _ _ => True) (fun _ s7 => s7) (fun v6 s7 => [(0, .ref ((gE Γ).2.1 148)), (1, .int v6)]) (fun recrec8 hrec8 v6 s7 _ => ?_) n v5 s3 trivial
    refine rf_iload_n C dX12_laysFirsts_24 rfl 1 rfl ?_
    refine rf_if_eq C 89 dX12_laysFirsts_25 (by decide) (fun _ => ?_) (fun _ => ?_)
    · exact rf_vret C dX12_laysFirsts_89
    refine rf_iconst C (v := (nI 0)) dX12_laysFirsts_28 rfl ?_
    refine rf_istore_n C (fun v9 => [(1, .int v9), (0, .ref ((gE Γ).2.1 148))]) dX12_laysFirsts_29 rfl (by decide) (fun _ => rfl) (fun v9 => ?_)
    refine rf_iconst C (v := (nI 0)) dX12_laysFirsts_30 rfl ?_
    refine rf_istore_n C (fun v10 => [(2, .int v10), (1, .int v9), (0, .ref ((gE Γ).2.1 148))]) dX12_laysFirsts_31 rfl (by decide) (fun _ => rfl) (fun v10 => ?_)
    refine rf_sub [2, 1, 0] rfl ?_
    refine rf_loo3 (fun _ _ _ => True) (fun _ _ s13 => s13) (fun v11 v12 s13 => [(0, .ref ((gE Γ).2.1 148)), (1, .int v11), (2, .int v12)]) (fun recrec14 hrec14 v11 v12 s13 _ => ?_) n v9 v10 s7 trivial
    refine rf_iload_n C dX12_laysFirsts_32 rfl 2 rfl ?_
    refine rf_aload_n C dX12_laysFirsts_33 rfl 0 rfl ?_
    refine rf_callVi C (rmc := rmOf 0 0) [] (by decide) (mX12_many (gL Γ) s13) mfX12_many mvX12_many mlX12_94 rfl oX12 rfl rfl rfl (Nat.le_of_ble_eq_true rfl) ⟨Nat.le_of_ble_eq_true rfl, Nat.le_of_ble_eq_true rfl⟩ dX12_laysFirsts_34 (fun r16 s15 => ?_)
    refine rf_icmp_ge C 86 dX12_laysFirsts_37 (by decide) (fun _ => ?_) (fun _ => ?_)
    · refine rf_goto C 24 dX12_laysFirsts_86 (by decide) ?_
      exact rf_sub [0, 1] rfl (hrec8 v11 s15 trivial)
    refine rf_aload_n C dX12_laysFirsts_40 rfl 0 rfl ?_
    refine rf_callVv C (rmc := rmOf 0 0) [] (by decide) (mX12_begin (gL Γ) n s15) mfX12_begin mvX12_begin mlX12_147 rfl oX12 rfl rfl rfl (Nat.le_of_ble_eq_true rfl) ⟨Nat.le_of_ble_eq_true rfl, Nat.le_of_ble_eq_true rfl⟩ dX12_laysFirsts_41 (fun s17 => ?_)
    refine rf_aload_n C dX12_laysFirsts_44 rfl 0 rfl ?_
    refine rf_iload_n C dX12_laysFirsts_45 rfl 2 rfl ?_
    refine rf_iconst C (v := (nI 0)) dX12_laysFirsts_46 rfl ?_
    refine rf_callVv C (rmc := rmOf 4 90) [.int v12, .int (nI 0)] (by decide) (mX12_joinsSymbols (gL Γ) n v12 (nI 0) s17) mfX12_joinsSymbols mvX12_joinsSymbols mlX12_150 rfl oX12 rfl rfl rfl (Nat.le_of_ble_eq_true rfl) ⟨Nat.le_of_ble_eq_true rfl, Nat.le_of_ble_eq_true rfl⟩ dX12_laysFirsts_47 (fun s18 => ?_)
    refine rf_aload_n C dX12_laysFirsts_50 rfl 0 rfl ?_
    refine rf_aload_n C dX12_laysFirsts_51 rfl 0 rfl ?_
    refine rf_get C (v := .ref ((gE Γ).2.1 158)) cfX12 flX12_42 (by decide) oX12 rfl dX12_laysFirsts_52 ?_
    refine rf_sipush C (v := (nI 216)) dX12_laysFirsts_55 rfl ?_
    refine rf_aload_n C dX12_laysFirsts_58 rfl 0 rfl ?_
    refine rf_iload_n C dX12_laysFirsts_59 rfl 2 rfl ?_
    refine rf_callVi C (rmc := rmOf 0 0) [.int v12] (by decide) (mX12_left (gL Γ) v12 s18) mfX12_left mvX12_left mlX12_102 rfl oX12 rfl rfl rfl (Nat.le_of_ble_eq_true rfl) ⟨Nat.le_of_ble_eq_true rfl, Nat.le_of_ble_eq_true rfl⟩ dX12_laysFirsts_60 (fun r20 s19 => ?_)
    refine rf_imul C dX12_laysFirsts_63 ?_
    refine rf_callVi C (rmc := rmOf 0 0) [.ref ((gE Γ).2.1 158), .int ((nI 216) * r20)] (by decide) (mX12_enters (gL Γ) n 158 1296 ((nI 216) * r20) s19 ar158) mfX12_enters mvX12_enters mlX12_154 rfl oX12 rfl rfl rfl (Nat.le_of_ble_eq_true rfl) ⟨Nat.le_of_ble_eq_true rfl, Nat.le_of_ble_eq_true rfl⟩ dX12_laysFirsts_64 (fun r22 s21 => ?_)
    refine rf_jn2 (fun _ _ => True) (fun _ s24 => s24) (fun v23 s24 => [(0, .ref ((gE Γ).2.1 148)), (2, .int v12)]) (fun v23 s24 => [.int v23]) 79 (fun v23 s24 _ => ?_) (fun j25 hj25 => ?_)
    · refine rf_istore_n C (fun v26 => [(1, .int v26), (0, .ref ((gE Γ).2.1 148)), (2, .int v12)]) dX12_laysFirsts_79 rfl (by decide) (fun _ => rfl) (fun v26 => ?_)
      refine rf_iinc C (fun v27 => [(2, .int v27), (1, .int v26), (0, .ref ((gE Γ).2.1 148))]) dX12_laysFirsts_80 2 rfl rfl (by decide) (fun _ => rfl) (fun v27 => ?_)
      refine rf_goto C 32 dX12_laysFirsts_83 (by decide) ?_
      exact rf_sub [2, 1, 0] rfl (hrec14 v26 v27 s24 trivial)
    refine rf_jn1 (fun _ => True) (fun  s28 => s28) (fun s28 => [(0, .ref ((gE Γ).2.1 148)), (2, .int v12)]) (fun s28 => []) 74 (fun s28 _ => ?_) (fun j29 hj29 => ?_)
    · refine rf_iconst C (v := (nI 1)) dX12_laysFirsts_74 rfl ?_
      refine rf_goto C 79 dX12_laysFirsts_75 (by decide) ?_
      exact rf_sub [0, 1] rfl (hj25 (nI 1) s28 trivial)
    refine rf_if_ne C 74 dX12_laysFirsts_67 (by decide) (fun _ => ?_) (fun _ => ?_)
    · exact rf_sub [0, 2] rfl (hj29 s21 trivial)
    refine rf_iload_n C dX12_laysFirsts_70 rfl 1 rfl ?_
    refine rf_if_eq C 78 dX12_laysFirsts_71 (by decide) (fun _ => ?_) (fun _ => ?_)
    · refine rf_iconst C (v := (nI 0)) dX12_laysFirsts_78 rfl ?_
      exact rf_sub [0, 2] rfl (hj25 (nI 0) s21 trivial)
    exact rf_sub [0, 2] rfl (hj29 s21 trivial)
  refine rf_aload_n C dX12_laysFirsts_9 rfl 0 rfl ?_
  refine rf_get C (v := .ref ((gE Γ).2.1 158)) cfX12 flX12_42 (by decide) oX12 rfl dX12_laysFirsts_10 ?_
  refine rf_iload_n C dX12_laysFirsts_13 rfl 1 rfl ?_
  refine rf_iconst C (v := (nI 0)) dX12_laysFirsts_14 rfl ?_
  refine rf_zast C ar158 dX12_laysFirsts_15 (fun s30 => ?_)
  refine rf_iinc C (fun v31 => [(1, .int v31), (0, .ref ((gE Γ).2.1 148))]) dX12_laysFirsts_16 1 rfl rfl (by decide) (fun _ => rfl) (fun v31 => ?_)
  refine rf_goto C 2 dX12_laysFirsts_19 (by decide) ?_
  exact rf_sub [1, 0] rfl (hrec4 v31 s30 trivial)

def fX12_laysFollows (n : Nat) (s0 : PH) : Option (Unit × PH) :=
(lt (nI 0) fun (v1 : Int32) =>
(loo2 (fun (recrec4 : Int32 → PH → Option (Unit × PH)) (v2 : Int32) (s3 : PH) =>
(if (nI 1296) ≤ v2 then
(lt (nI 1) fun (v5 : Int32) =>
(loo2 (fun (recrec8 : Int32 → PH → Option (Unit × PH)) (v6 : Int32) (s7 : PH) =>
(if v6 = 0 then
(some ((), s7))
else
(lt (nI 0) fun (v9 : Int32) =>
(lt (nI 0) fun (v10 : Int32) =>
(loo3 (fun (recrec14 : Int32 → Int32 → PH → Option (Unit × PH)) (v11 : Int32) (v12 : Int32) (s13 : PH) =>
(bd (fX12_many s13) fun (r16 : Int32) (s15 : PH) =>
(if r16 ≤ v12 then
(recrec8 v11 s15)
else
(lt (nI 0) fun (v17 : Int32) =>
(loo3 (fun (recrec21 : Int32 → Int32 → PH → Option (Unit × PH)) (v18 : Int32) (v19 : Int32) (s20 : PH) =>
(bd (fX12_size v12 s20) fun (r23 : Int32) (s22 : PH) =>
(if r23 ≤ v19 then
(lt (v12 + (nI 1)) fun (v24 : Int32) =>
(recrec14 v18 v24 s22))
else
(bd (fX12_at v12 v19 s22) fun (r26 : Int32) (s25 : PH) =>
(jn (fun (v27 : Int32) (s28 : PH) =>
(lt (v19 + (nI 1)) fun (v30 : Int32) =>
(recrec21 v27 v30 s28))) (fun (j29 : Int32 → PH → Option (Unit × PH)) =>
(if r26 < (nI 10) then
(j29 v18 s25)
else
(bd (fX12_begin n s25) fun _ (s31 : PH) =>
(bd (fX12_joinsSymbols n v12 (v19 + (nI 1)) s31) fun _ (s32 : PH) =>
(bd (fX12_left v12 s32) fun (r34 : Int32) (s33 : PH) =>
(bd (fX12_joins n 159 1296 ((nI 216) * r34) s33) fun _ (s35 : PH) =>
(bd (fX12_at v12 v19 s35) fun (r37 : Int32) (s36 : PH) =>
(bd (fX12_enters n 159 1296 ((nI 216) * (r37 - (nI 10))) s36) fun (r39 : Int32) (s38 : PH) =>
(jn (fun (v40 : Int32) (s41 : PH) =>
(lt v40 fun (v43 : Int32) =>
(j29 v43 s41))) (fun (j42 : Int32 → PH → Option (Unit × PH)) =>
(jn (fun (s44 : PH) =>
(j42 (nI 1) s44)) (fun (j45 : PH → Option (Unit × PH)) =>
(if r39 = 0 then
(if v18 = 0 then
(j42 (nI 0) s38)
else
(j45 s38))
else
(j45 s38))))))))))))))))))) n v11 v17 s15))))) n v9 v10 s7))))) n v5 s3))
else
(bd (fX12_start s3) fun (r47 : Int32) (s46 : PH) =>
(jn (fun (v48 : Int32) (s49 : PH) =>
(wa 1296 v2 (lt (si s49 159 v2.toNatClampNeg (nz v48)) fun (s51 : PH) =>
(lt (v2 + (nI 1)) fun (v52 : Int32) =>
(recrec4 v52 s51))))) (fun (j50 : Int32 → PH → Option (Unit × PH)) =>
(if v2 = ((nI 216) * r47) then
(j50 (nI 1) s46)
else
(j50 (nI 0) s46))))))) n v1 s0))
set_option maxRecDepth 20000 in
set_option maxHeartbeats 2000000 in
theorem mX12_laysFollows (l : Launch) (n : Nat) (s0 : PH) : Ctv 174 l yX12_laysFollows cX12_laysFollows 4 none (rmOf 5 113) (fun E => [.ref (E.2.1 148)]) s0 (fX12_laysFollows n s0) := by
  refine Ctv.of (by decide) rfl (lv := fun E => [(0, .ref (E.2.1 148))]) (fun _ => Nat.le_of_ble_eq_true rfl) (fun _ => rfl) (fun Γ hΓ _ C => ?_)
  subst hΓ
  unfold fX12_laysFollows
  refine rf_iconst C (v := (nI 0)) dX12_laysFollows_0 rfl ?_
  refine rf_istore_n C (fun v1 => [(1, .int v1), (0, .ref ((gE Γ).2.1 148))]) dX12_laysFollows_1 rfl (by decide) (fun _ => rfl) (fun v1 => ?_)
  refine rf_sub [1, 0] rfl ?_
  refine rf_loo2 (fun _ _ => True) (fun _ s3 => s3) (fun v2 s3 => [(0, .ref ((gE Γ).2.1 148)), (1, .int v2)]) (fun recrec4 hrec4 v2 s3 _ => ?_) n v1 s0 trivial
  refine rf_iload_n C dX12_laysFollows_2 rfl 1 rfl ?_
  refine rf_sipush C (v := (nI 1296)) dX12_laysFollows_3 rfl ?_
  refine rf_icmp_ge C 38 dX12_laysFollows_6 (by decide) (fun _ => ?_) (fun _ => ?_)
  · refine rf_iconst C (v := (nI 1)) dX12_laysFollows_38 rfl ?_
    refine rf_istore_n C (fun v5 => [(1, .int v5), (0, .ref ((gE Γ).2.1 148))]) dX12_laysFollows_39 rfl (by decide) (fun _ => rfl) (fun v5 => ?_)
    refine rf_sub [1, 0] rfl ?_
    refine rf_loo2 (fun _ _ => True) (fun _ s7 => s7) (fun v6 s7 => [(0, .ref ((gE Γ).2.1 148)), (1, .int v6)]) (fun recrec8 hrec8 v6 s7 _ => ?_) n v5 s3 trivial
    refine rf_iload_n C dX12_laysFollows_40 rfl 1 rfl ?_
    refine rf_if_eq C 156 dX12_laysFollows_41 (by decide) (fun _ => ?_) (fun _ => ?_)
    · exact rf_vret C dX12_laysFollows_156
    refine rf_iconst C (v := (nI 0)) dX12_laysFollows_44 rfl ?_
    refine rf_istore_n C (fun v9 => [(1, .int v9), (0, .ref ((gE Γ).2.1 148))]) dX12_laysFollows_45 rfl (by decide) (fun _ => rfl) (fun v9 => ?_)
    refine rf_iconst C (v := (nI 0)) dX12_laysFollows_46 rfl ?_
    refine rf_istore_n C (fun v10 => [(2, .int v10), (1, .int v9), (0, .ref ((gE Γ).2.1 148))]) dX12_laysFollows_47 rfl (by decide) (fun _ => rfl) (fun v10 => ?_)
    refine rf_sub [2, 1, 0] rfl ?_
    refine rf_loo3 (fun _ _ _ => True) (fun _ _ s13 => s13) (fun v11 v12 s13 => [(0, .ref ((gE Γ).2.1 148)), (1, .int v11), (2, .int v12)]) (fun recrec14 hrec14 v11 v12 s13 _ => ?_) n v9 v10 s7 trivial
    refine rf_iload_n C dX12_laysFollows_48 rfl 2 rfl ?_
    refine rf_aload_n C dX12_laysFollows_49 rfl 0 rfl ?_
    refine rf_callVi C (rmc := rmOf 0 0) [] (by decide) (mX12_many (gL Γ) s13) mfX12_many mvX12_many mlX12_94 rfl oX12 rfl rfl rfl (Nat.le_of_ble_eq_true rfl) ⟨Nat.le_of_ble_eq_true rfl, Nat.le_of_ble_eq_true rfl⟩ dX12_laysFollows_50 (fun r16 s15 => ?_)
    refine rf_icmp_ge C 153 dX12_laysFollows_53 (by decide) (fun _ => ?_) (fun _ => ?_)
    · refine rf_goto C 40 dX12_laysFollows_153 (by decide) ?_
      exact rf_sub [0, 1] rfl (hrec8 v11 s15 trivial)
    refine rf_iconst C (v := (nI 0)) dX12_laysFollows_56 rfl ?_
    refine rf_istore_n C (fun v17 => [(3, .int v17), (0, .ref ((gE Γ).2.1 148)), (1, .int v11), (2, .int v12)]) dX12_laysFollows_57 rfl (by decide) (fun _ => rfl) (fun v17 => ?_)
    refine rf_sub [1, 2, 3, 0] rfl ?_
    refine rf_loo3 (fun _ _ _ => True) (fun _ _ s20 => s20) (fun v18 v19 s20 => [(0, .ref ((gE Γ).2.1 148)), (1, .int v18), (2, .int v12), (3, .int v19)]) (fun recrec21 hrec21 v18 v19 s20 _ => ?_) n v11 v17 s15 trivial
    refine rf_iload_n C dX12_laysFollows_58 rfl 3 rfl ?_
    refine rf_aload_n C dX12_laysFollows_59 rfl 0 rfl ?_
    refine rf_iload_n C dX12_laysFollows_60 rfl 2 rfl ?_
    refine rf_callVi C (rmc := rmOf 0 0) [.int v12] (by decide) (mX12_size (gL Γ) v12 s20) mfX12_size mvX12_size mlX12_117 rfl oX12 rfl rfl rfl (Nat.le_of_ble_eq_true rfl) ⟨Nat.le_of_ble_eq_true rfl, Nat.le_of_ble_eq_true rfl⟩ dX12_laysFollows_61 (fun r23 s22 => ?_)
    refine rf_icmp_ge C 147 dX12_laysFollows_64 (by decide) (fun _ => ?_) (fun _ => ?_)
    · refine rf_iinc C (fun v24 => [(2, .int v24), (0, .ref ((gE Γ).2.1 148)), (1, .int v18), (3, .int v19)]) dX12_laysFollows_147 2 rfl rfl (by decide) (fun _ => rfl) (fun v24 => ?_)
      refine rf_goto C 48 dX12_laysFollows_150 (by decide) ?_
      exact rf_sub [1, 2, 0] rfl (hrec14 v18 v24 s22 trivial)
    refine rf_aload_n C dX12_laysFollows_67 rfl 0 rfl ?_
    refine rf_iload_n C dX12_laysFollows_68 rfl 2 rfl ?_
    refine rf_iload_n C dX12_laysFollows_69 rfl 3 rfl ?_
    refine rf_callVi C (rmc := rmOf 0 0) [.int v12, .int v19] (by decide) (mX12_at (gL Γ) v12 v19 s22) mfX12_at mvX12_at mlX12_109 rfl oX12 rfl rfl rfl (Nat.le_of_ble_eq_true rfl) ⟨Nat.le_of_ble_eq_true rfl, Nat.le_of_ble_eq_true rfl⟩ dX12_laysFollows_70 (fun r26 s25 => ?_)
    refine rf_bipush C (v := (nI 10)) dX12_laysFollows_73 rfl ?_
    refine rf_jn2 (fun _ _ => True) (fun _ s28 => s28) (fun v27 s28 => [(0, .ref ((gE Γ).2.1 148)), (1, .int v27), (2, .int v12), (3, .int v19)]) (fun v27 s28 => []) 141 (fun v27 s28 _ => ?_) (fun j29 hj29 => ?_)
    · refine rf_iinc C (fun v30 => [(3, .int v30), (0, .ref ((gE Γ).2.1 148)), (1, .int v27), (2, .int v12)]) dX12_laysFollows_141 3 rfl rfl (by decide) (fun _ => rfl) (fun v30 => ?_)
      refine rf_goto C 58 dX12_laysFollows_144 (by decide) ?_
      exact rf_sub [1, 2, 3, 0] rfl (hrec21 v27 v30 s28 trivial)
    refine rf_icmp_lt C 141 dX12_laysFollows_75 (by decide) (fun _ => ?_) (fun _ => ?_)
    · exact rf_sub [0, 1, 2, 3] rfl (hj29 v18 s25 trivial)
    refine rf_aload_n C dX12_laysFollows_78 rfl 0 rfl ?_
    refine rf_callVv C (rmc := rmOf 0 0) [] (by decide) (mX12_begin (gL Γ) n s25) mfX12_begin mvX12_begin mlX12_147 rfl oX12 rfl rfl rfl (Nat.le_of_ble_eq_true rfl) ⟨Nat.le_of_ble_eq_true rfl, Nat.le_of_ble_eq_true rfl⟩ dX12_laysFollows_79 (fun s31 => ?_)
    refine rf_aload_n C dX12_laysFollows_82 rfl 0 rfl ?_
    refine rf_iload_n C dX12_laysFollows_83 rfl 2 rfl ?_
    refine rf_iload_n C dX12_laysFollows_84 rfl 3 rfl ?_
    refine rf_iconst C (v := (nI 1)) dX12_laysFollows_85 rfl ?_
    refine rf_iadd C dX12_laysFollows_86 ?_
    refine rf_callVv C (rmc := rmOf 4 90) [.int v12, .int (v19 + (nI 1))] (by decide) (mX12_joinsSymbols (gL Γ) n v12 (v19 + (nI 1)) s31) mfX12_joinsSymbols mvX12_joinsSymbols mlX12_150 rfl oX12 rfl rfl rfl (Nat.le_of_ble_eq_true rfl) ⟨Nat.le_of_ble_eq_true rfl, Nat.le_of_ble_eq_true rfl⟩ dX12_laysFollows_87 (fun s32 => ?_)
    refine rf_aload_n C dX12_laysFollows_90 rfl 0 rfl ?_
    refine rf_aload_n C dX12_laysFollows_91 rfl 0 rfl ?_
    refine rf_get C (v := .ref ((gE Γ).2.1 159)) cfX12 flX12_45 (by decide) oX12 rfl dX12_laysFollows_92 ?_
    refine rf_sipush C (v := (nI 216)) dX12_laysFollows_95 rfl ?_
    refine rf_aload_n C dX12_laysFollows_98 rfl 0 rfl ?_
    refine rf_iload_n C dX12_laysFollows_99 rfl 2 rfl ?_
    refine rf_callVi C (rmc := rmOf 0 0) [.int v12] (by decide) (mX12_left (gL Γ) v12 s32) mfX12_left mvX12_left mlX12_102 rfl oX12 rfl rfl rfl (Nat.le_of_ble_eq_true rfl) ⟨Nat.le_of_ble_eq_true rfl, Nat.le_of_ble_eq_true rfl⟩ dX12_laysFollows_100 (fun r34 s33 => ?_)
    refine rf_imul C dX12_laysFollows_103 ?_
    refine rf_callVv C (rmc := rmOf 3 65) [.ref ((gE Γ).2.1 159), .int ((nI 216) * r34)] (by decide) (mX12_joins (gL Γ) n 159 1296 ((nI 216) * r34) s33 ar159) mfX12_joins mvX12_joins mlX12_143 rfl oX12 rfl rfl rfl (Nat.le_of_ble_eq_true rfl) ⟨Nat.le_of_ble_eq_true rfl, Nat.le_of_ble_eq_true rfl⟩ dX12_laysFollows_104 (fun s35 => ?_)
    refine rf_aload_n C dX12_laysFollows_107 rfl 0 rfl ?_
    refine rf_aload_n C dX12_laysFollows_108 rfl 0 rfl ?_
    refine rf_get C (v := .ref ((gE Γ).2.1 159)) cfX12 flX12_45 (by decide) oX12 rfl dX12_laysFollows_109 ?_
    refine rf_sipush C (v := (nI 216)) dX12_laysFollows_112 rfl ?_
    refine rf_aload_n C dX12_laysFollows_115 rfl 0 rfl ?_
    refine rf_iload_n C dX12_laysFollows_116 rfl 2 rfl ?_
    refine rf_iload_n C dX12_laysFollows_117 rfl 3 rfl ?_
    refine rf_callVi C (rmc := rmOf 0 0) [.int v12, .int v19] (by decide) (mX12_at (gL Γ) v12 v19 s35) mfX12_at mvX12_at mlX12_109 rfl oX12 rfl rfl rfl (Nat.le_of_ble_eq_true rfl) ⟨Nat.le_of_ble_eq_true rfl, Nat.le_of_ble_eq_true rfl⟩ dX12_laysFollows_118 (fun r37 s36 => ?_)
    refine rf_bipush C (v := (nI 10)) dX12_laysFollows_121 rfl ?_
    refine rf_isub C dX12_laysFollows_123 ?_
    refine rf_imul C dX12_laysFollows_124 ?_
    refine rf_callVi C (rmc := rmOf 0 0) [.ref ((gE Γ).2.1 159), .int ((nI 216) * (r37 - (nI 10)))] (by decide) (mX12_enters (gL Γ) n 159 1296 ((nI 216) * (r37 - (nI 10))) s36 ar159) mfX12_enters mvX12_enters mlX12_154 rfl oX12 rfl rfl rfl (Nat.le_of_ble_eq_true rfl) ⟨Nat.le_of_ble_eq_true rfl, Nat.le_of_ble_eq_true rfl⟩ dX12_laysFollows_125 (fun r39 s38 => ?_)
    refine rf_jn2 (fun _ _ => True) (fun _ s41 => s41) (fun v40 s41 => [(0, .ref ((gE Γ).2.1 148)), (2, .int v12), (3, .int v19)]) (fun v40 s41 => [.int v40]) 140 (fun v40 s41 _ => ?_) (fun j42 hj42 => ?_)
    · refine rf_istore_n C (fun v43 => [(1, .int v43), (0, .ref ((gE Γ).2.1 148)), (2, .int v12), (3, .int v19)]) dX12_laysFollows_140 rfl (by decide) (fun _ => rfl) (fun v43 => ?_)
      exact rf_sub [1, 0, 2, 3] rfl (hj29 v43 s41 trivial)
    refine rf_jn1 (fun _ => True) (fun  s44 => s44) (fun s44 => [(0, .ref ((gE Γ).2.1 148)), (2, .int v12), (3, .int v19)]) (fun s44 => []) 135 (fun s44 _ => ?_) (fun j45 hj45 => ?_)
    · refine rf_iconst C (v := (nI 1)) dX12_laysFollows_135 rfl ?_
      refine rf_goto C 140 dX12_laysFollows_136 (by decide) ?_
      exact rf_sub [0, 1, 2] rfl (hj42 (nI 1) s44 trivial)
    refine rf_if_ne C 135 dX12_laysFollows_128 (by decide) (fun _ => ?_) (fun _ => ?_)
    · exact rf_sub [0, 2, 3] rfl (hj45 s38 trivial)
    refine rf_iload_n C dX12_laysFollows_131 rfl 1 rfl ?_
    refine rf_if_eq C 139 dX12_laysFollows_132 (by decide) (fun _ => ?_) (fun _ => ?_)
    · refine rf_iconst C (v := (nI 0)) dX12_laysFollows_139 rfl ?_
      exact rf_sub [0, 2, 3] rfl (hj42 (nI 0) s38 trivial)
    exact rf_sub [0, 2, 3] rfl (hj45 s38 trivial)
  refine rf_aload_n C dX12_laysFollows_9 rfl 0 rfl ?_
  refine rf_get C (v := .ref ((gE Γ).2.1 159)) cfX12 flX12_45 (by decide) oX12 rfl dX12_laysFollows_10 ?_
  refine rf_iload_n C dX12_laysFollows_13 rfl 1 rfl ?_
  refine rf_iload_n C dX12_laysFollows_14 rfl 1 rfl ?_
  refine rf_sipush C (v := (nI 216)) dX12_laysFollows_15 rfl ?_
  refine rf_aload_n C dX12_laysFollows_18 rfl 0 rfl ?_
  refine rf_callVi C (rmc := rmOf 0 0) [] (by decide) (mX12_start (gL Γ) s3) mfX12_start mvX12_start mlX12_124 rfl oX12 rfl rfl rfl (Nat.le_of_ble_eq_true rfl) ⟨Nat.le_of_ble_eq_true rfl, Nat.le_of_ble_eq_true rfl⟩ dX12_laysFollows_19 (fun r47 s46 => ?_)
  refine rf_imul C dX12_laysFollows_22 ?_
  refine rf_jn2 (fun _ _ => True) (fun _ s49 => s49) (fun v48 s49 => [(0, .ref ((gE Γ).2.1 148)), (1, .int v2)]) (fun v48 s49 => [.int v48, .int v2, .ref ((gE Γ).2.1 159)]) 31 (fun v48 s49 _ => ?_) (fun j50 hj50 => ?_)
  · refine rf_zast C ar159 dX12_laysFollows_31 (fun s51 => ?_)
    refine rf_iinc C (fun v52 => [(1, .int v52), (0, .ref ((gE Γ).2.1 148))]) dX12_laysFollows_32 1 rfl rfl (by decide) (fun _ => rfl) (fun v52 => ?_)
    refine rf_goto C 2 dX12_laysFollows_35 (by decide) ?_
    exact rf_sub [1, 0] rfl (hrec4 v52 s51 trivial)
  refine rf_icmp_ne C 30 dX12_laysFollows_23 (by decide) (fun _ => ?_) (fun _ => ?_)
  · refine rf_iconst C (v := (nI 0)) dX12_laysFollows_30 rfl ?_
    exact rf_sub [0, 1] rfl (hj50 (nI 0) s46 trivial)
  refine rf_iconst C (v := (nI 1)) dX12_laysFollows_26 rfl ?_
  refine rf_goto C 31 dX12_laysFollows_27 (by decide) ?_
  exact rf_sub [0, 1] rfl (hj50 (nI 1) s46 trivial)

def fX12_laysAheads (n : Nat) (s0 : PH) : Option (Unit × PH) :=
(lt (nI 0) fun (v1 : Int32) =>
(loo2 (fun (recrec4 : Int32 → PH → Option (Unit × PH)) (v2 : Int32) (s3 : PH) =>
(if (nI 3456) ≤ v2 then
(lt (nI 0) fun (v5 : Int32) =>
(loo2 (fun (recrec8 : Int32 → PH → Option (Unit × PH)) (v6 : Int32) (s7 : PH) =>
(bd (fX12_many s7) fun (r10 : Int32) (s9 : PH) =>
(if r10 ≤ v6 then
(some ((), s9))
else
(bd (fX12_begin n s9) fun _ (s11 : PH) =>
(bd (fX12_joinsSymbols n v6 (nI 0) s11) fun _ (s12 : PH) =>
(bd (fX12_left v6 s12) fun (r14 : Int32) (s13 : PH) =>
(bd (fX12_joins n 159 1296 ((nI 216) * r14) s13) fun _ (s15 : PH) =>
(bd (fX12_enters n 160 3456 ((nI 216) * v6) s15) fun (r17 : Int32) (s16 : PH) =>
(lt r17 fun (v18 : Int32) =>
(lt (v6 + (nI 1)) fun (v19 : Int32) =>
(recrec8 v19 s16))))))))))) n v5 s3))
else
(wa 3456 v2 (lt (si s3 160 v2.toNatClampNeg (nz (nI 0))) fun (s20 : PH) =>
(lt (v2 + (nI 1)) fun (v21 : Int32) =>
(recrec4 v21 s20)))))) n v1 s0))
set_option maxRecDepth 20000 in
set_option maxHeartbeats 2000000 in
theorem mX12_laysAheads (l : Launch) (n : Nat) (s0 : PH) : Ctv 174 l yX12_laysAheads cX12_laysAheads 3 none (rmOf 5 113) (fun E => [.ref (E.2.1 148)]) s0 (fX12_laysAheads n s0) := by
  refine Ctv.of (by decide) rfl (lv := fun E => [(0, .ref (E.2.1 148))]) (fun _ => Nat.le_of_ble_eq_true rfl) (fun _ => rfl) (fun Γ hΓ _ C => ?_)
  subst hΓ
  unfold fX12_laysAheads
  refine rf_iconst C (v := (nI 0)) dX12_laysAheads_0 rfl ?_
  refine rf_istore_n C (fun v1 => [(1, .int v1), (0, .ref ((gE Γ).2.1 148))]) dX12_laysAheads_1 rfl (by decide) (fun _ => rfl) (fun v1 => ?_)
  refine rf_sub [1, 0] rfl ?_
  refine rf_loo2 (fun _ _ => True) (fun _ s3 => s3) (fun v2 s3 => [(0, .ref ((gE Γ).2.1 148)), (1, .int v2)]) (fun recrec4 hrec4 v2 s3 _ => ?_) n v1 s0 trivial
  refine rf_iload_n C dX12_laysAheads_2 rfl 1 rfl ?_
  refine rf_sipush C (v := (nI 3456)) dX12_laysAheads_3 rfl ?_
  refine rf_icmp_ge C 22 dX12_laysAheads_6 (by decide) (fun _ => ?_) (fun _ => ?_)
  · refine rf_iconst C (v := (nI 0)) dX12_laysAheads_22 rfl ?_
    refine rf_istore_n C (fun v5 => [(1, .int v5), (0, .ref ((gE Γ).2.1 148))]) dX12_laysAheads_23 rfl (by decide) (fun _ => rfl) (fun v5 => ?_)
    refine rf_sub [1, 0] rfl ?_
    refine rf_loo2 (fun _ _ => True) (fun _ s7 => s7) (fun v6 s7 => [(0, .ref ((gE Γ).2.1 148)), (1, .int v6)]) (fun recrec8 hrec8 v6 s7 _ => ?_) n v5 s3 trivial
    refine rf_iload_n C dX12_laysAheads_24 rfl 1 rfl ?_
    refine rf_aload_n C dX12_laysAheads_25 rfl 0 rfl ?_
    refine rf_callVi C (rmc := rmOf 0 0) [] (by decide) (mX12_many (gL Γ) s7) mfX12_many mvX12_many mlX12_94 rfl oX12 rfl rfl rfl (Nat.le_of_ble_eq_true rfl) ⟨Nat.le_of_ble_eq_true rfl, Nat.le_of_ble_eq_true rfl⟩ dX12_laysAheads_26 (fun r10 s9 => ?_)
    refine rf_icmp_ge C 79 dX12_laysAheads_29 (by decide) (fun _ => ?_) (fun _ => ?_)
    · exact rf_vret C dX12_laysAheads_79
    refine rf_aload_n C dX12_laysAheads_32 rfl 0 rfl ?_
    refine rf_callVv C (rmc := rmOf 0 0) [] (by decide) (mX12_begin (gL Γ) n s9) mfX12_begin mvX12_begin mlX12_147 rfl oX12 rfl rfl rfl (Nat.le_of_ble_eq_true rfl) ⟨Nat.le_of_ble_eq_true rfl, Nat.le_of_ble_eq_true rfl⟩ dX12_laysAheads_33 (fun s11 => ?_)
    refine rf_aload_n C dX12_laysAheads_36 rfl 0 rfl ?_
    refine rf_iload_n C dX12_laysAheads_37 rfl 1 rfl ?_
    refine rf_iconst C (v := (nI 0)) dX12_laysAheads_38 rfl ?_
    refine rf_callVv C (rmc := rmOf 4 90) [.int v6, .int (nI 0)] (by decide) (mX12_joinsSymbols (gL Γ) n v6 (nI 0) s11) mfX12_joinsSymbols mvX12_joinsSymbols mlX12_150 rfl oX12 rfl rfl rfl (Nat.le_of_ble_eq_true rfl) ⟨Nat.le_of_ble_eq_true rfl, Nat.le_of_ble_eq_true rfl⟩ dX12_laysAheads_39 (fun s12 => ?_)
    refine rf_aload_n C dX12_laysAheads_42 rfl 0 rfl ?_
    refine rf_aload_n C dX12_laysAheads_43 rfl 0 rfl ?_
    refine rf_get C (v := .ref ((gE Γ).2.1 159)) cfX12 flX12_45 (by decide) oX12 rfl dX12_laysAheads_44 ?_
    refine rf_sipush C (v := (nI 216)) dX12_laysAheads_47 rfl ?_
    refine rf_aload_n C dX12_laysAheads_50 rfl 0 rfl ?_
    refine rf_iload_n C dX12_laysAheads_51 rfl 1 rfl ?_
    refine rf_callVi C (rmc := rmOf 0 0) [.int v6] (by decide) (mX12_left (gL Γ) v6 s12) mfX12_left mvX12_left mlX12_102 rfl oX12 rfl rfl rfl (Nat.le_of_ble_eq_true rfl) ⟨Nat.le_of_ble_eq_true rfl, Nat.le_of_ble_eq_true rfl⟩ dX12_laysAheads_52 (fun r14 s13 => ?_)
    refine rf_imul C dX12_laysAheads_55 ?_
    refine rf_callVv C (rmc := rmOf 3 65) [.ref ((gE Γ).2.1 159), .int ((nI 216) * r14)] (by decide) (mX12_joins (gL Γ) n 159 1296 ((nI 216) * r14) s13 ar159) mfX12_joins mvX12_joins mlX12_143 rfl oX12 rfl rfl rfl (Nat.le_of_ble_eq_true rfl) ⟨Nat.le_of_ble_eq_true rfl, Nat.le_of_ble_eq_true rfl⟩ dX12_laysAheads_56 (fun s15 => ?_)
    refine rf_aload_n C dX12_laysAheads_59 rfl 0 rfl ?_
    refine rf_aload_n C dX12_laysAheads_60 rfl 0 rfl ?_
    refine rf_get C (v := .ref ((gE Γ).2.1 160)) cfX12 flX12_48 (by decide) oX12 rfl dX12_laysAheads_61 ?_
    refine rf_sipush C (v := (nI 216)) dX12_laysAheads_64 rfl ?_
    refine rf_iload_n C dX12_laysAheads_67 rfl 1 rfl ?_
    refine rf_imul C dX12_laysAheads_68 ?_
    refine rf_callVi C (rmc := rmOf 0 0) [.ref ((gE Γ).2.1 160), .int ((nI 216) * v6)] (by decide) (mX12_enters (gL Γ) n 160 3456 ((nI 216) * v6) s15 ar160) mfX12_enters mvX12_enters mlX12_154 rfl oX12 rfl rfl rfl (Nat.le_of_ble_eq_true rfl) ⟨Nat.le_of_ble_eq_true rfl, Nat.le_of_ble_eq_true rfl⟩ dX12_laysAheads_69 (fun r17 s16 => ?_)
    refine rf_istore_n C (fun v18 => [(2, .int v18), (0, .ref ((gE Γ).2.1 148)), (1, .int v6)]) dX12_laysAheads_72 rfl (by decide) (fun _ => rfl) (fun v18 => ?_)
    refine rf_iinc C (fun v19 => [(1, .int v19), (2, .int v18), (0, .ref ((gE Γ).2.1 148))]) dX12_laysAheads_73 2 rfl rfl (by decide) (fun _ => rfl) (fun v19 => ?_)
    refine rf_goto C 24 dX12_laysAheads_76 (by decide) ?_
    exact rf_sub [2, 0] rfl (hrec8 v19 s16 trivial)
  refine rf_aload_n C dX12_laysAheads_9 rfl 0 rfl ?_
  refine rf_get C (v := .ref ((gE Γ).2.1 160)) cfX12 flX12_48 (by decide) oX12 rfl dX12_laysAheads_10 ?_
  refine rf_iload_n C dX12_laysAheads_13 rfl 1 rfl ?_
  refine rf_iconst C (v := (nI 0)) dX12_laysAheads_14 rfl ?_
  refine rf_zast C ar160 dX12_laysAheads_15 (fun s20 => ?_)
  refine rf_iinc C (fun v21 => [(1, .int v21), (0, .ref ((gE Γ).2.1 148))]) dX12_laysAheads_16 1 rfl rfl (by decide) (fun _ => rfl) (fun v21 => ?_)
  refine rf_goto C 2 dX12_laysAheads_19 (by decide) ?_
  exact rf_sub [1, 0] rfl (hrec4 v21 s20 trivial)

def fX12_cuts (n : Nat) (s0 : PH) : Option (Unit × PH) :=
(lt (nI 0) fun (v1 : Int32) =>
(loo2 (fun (recrec4 : Int32 → PH → Option (Unit × PH)) (v2 : Int32) (s3 : PH) =>
(if (nI 24192) ≤ v2 then
(lt (nI 0) fun (v5 : Int32) =>
(loo2 (fun (recrec8 : Int32 → PH → Option (Unit × PH)) (v6 : Int32) (s7 : PH) =>
(if (nI 4) ≤ v6 then
(some ((), s7))
else
(lt (nI 0) fun (v9 : Int32) =>
(loo2 (fun (recrec12 : Int32 → PH → Option (Unit × PH)) (v10 : Int32) (s11 : PH) =>
(if (nI 6048) ≤ v10 then
(lt (v6 + (nI 1)) fun (v13 : Int32) =>
(recrec8 v13 s11))
else
(jn (fun (v14 : Int32) (s15 : PH) =>
(lt v14 fun (v17 : Int32) =>
(jn (fun (s18 : PH) =>
(lt (v10 + (nI 1)) fun (v20 : Int32) =>
(recrec12 v20 s18))) (fun (j19 : PH → Option (Unit × PH)) =>
(if v17 = 0 then
(j19 s15)
else
(bd (fX12_cut (v10 - v10 / (nI 216) * (nI 216)) v6 s15) fun (r22 : Int32) (s21 : PH) =>
(wa 24192 ((((nI 6048) * v6) + ((v10 / (nI 216)) * (nI 216))) + r22) (lt (si s21 164 ((((nI 6048) * v6) + ((v10 / (nI 216)) * (nI 216))) + r22).toNatClampNeg (nz (nI 1))) fun (s23 : PH) =>
(j19 s23))))))))) (fun (j16 : Int32 → PH → Option (Unit × PH)) =>
(if (nI 1296) ≤ v10 then
(if (nI 2592) ≤ v10 then
(ra 3456 (v10 - (nI 2592)) (s11.1 160) fun (v24 : Int32) =>
(j16 v24 s11))
else
(ra 1296 (v10 - (nI 1296)) (s11.1 159) fun (v25 : Int32) =>
(j16 v25 s11)))
else
(ra 1296 v10 (s11.1 158) fun (v26 : Int32) =>
(j16 v26 s11))))))) n v9 s7)))) n v5 s3))
else
(wa 24192 v2 (lt (si s3 164 v2.toNatClampNeg (nz (nI 0))) fun (s27 : PH) =>
(lt (v2 + (nI 1)) fun (v28 : Int32) =>
(recrec4 v28 s27)))))) n v1 s0))
set_option maxRecDepth 20000 in
set_option maxHeartbeats 2000000 in
theorem mX12_cuts (l : Launch) (n : Nat) (s0 : PH) : Ctv 174 l yX12_cuts cX12_cuts 4 none (rmOf 2 42) (fun E => [.ref (E.2.1 148)]) s0 (fX12_cuts n s0) := by
  refine Ctv.of (by decide) rfl (lv := fun E => [(0, .ref (E.2.1 148))]) (fun _ => Nat.le_of_ble_eq_true rfl) (fun _ => rfl) (fun Γ hΓ _ C => ?_)
  subst hΓ
  unfold fX12_cuts
  refine rf_iconst C (v := (nI 0)) dX12_cuts_0 rfl ?_
  refine rf_istore_n C (fun v1 => [(1, .int v1), (0, .ref ((gE Γ).2.1 148))]) dX12_cuts_1 rfl (by decide) (fun _ => rfl) (fun v1 => ?_)
  refine rf_sub [1, 0] rfl ?_
  refine rf_loo2 (fun _ _ => True) (fun _ s3 => s3) (fun v2 s3 => [(0, .ref ((gE Γ).2.1 148)), (1, .int v2)]) (fun recrec4 hrec4 v2 s3 _ => ?_) n v1 s0 trivial
  refine rf_iload_n C dX12_cuts_2 rfl 1 rfl ?_
  refine rf_sipush C (v := (nI 24192)) dX12_cuts_3 rfl ?_
  refine rf_icmp_ge C 22 dX12_cuts_6 (by decide) (fun _ => ?_) (fun _ => ?_)
  · refine rf_iconst C (v := (nI 0)) dX12_cuts_22 rfl ?_
    refine rf_istore_n C (fun v5 => [(1, .int v5), (0, .ref ((gE Γ).2.1 148))]) dX12_cuts_23 rfl (by decide) (fun _ => rfl) (fun v5 => ?_)
    refine rf_sub [1, 0] rfl ?_
    refine rf_loo2 (fun _ _ => True) (fun _ s7 => s7) (fun v6 s7 => [(0, .ref ((gE Γ).2.1 148)), (1, .int v6)]) (fun recrec8 hrec8 v6 s7 _ => ?_) n v5 s3 trivial
    refine rf_iload_n C dX12_cuts_24 rfl 1 rfl ?_
    refine rf_iconst C (v := (nI 4)) dX12_cuts_25 rfl ?_
    refine rf_icmp_ge C 132 dX12_cuts_26 (by decide) (fun _ => ?_) (fun _ => ?_)
    · exact rf_vret C dX12_cuts_132
    refine rf_iconst C (v := (nI 0)) dX12_cuts_29 rfl ?_
    refine rf_istore_n C (fun v9 => [(2, .int v9), (0, .ref ((gE Γ).2.1 148)), (1, .int v6)]) dX12_cuts_30 rfl (by decide) (fun _ => rfl) (fun v9 => ?_)
    refine rf_sub [1, 2, 0] rfl ?_
    refine rf_loo2 (fun _ _ => True) (fun _ s11 => s11) (fun v10 s11 => [(0, .ref ((gE Γ).2.1 148)), (1, .int v6), (2, .int v10)]) (fun recrec12 hrec12 v10 s11 _ => ?_) n v9 s7 trivial
    refine rf_iload_n C dX12_cuts_31 rfl 2 rfl ?_
    refine rf_sipush C (v := (nI 6048)) dX12_cuts_32 rfl ?_
    refine rf_icmp_ge C 126 dX12_cuts_35 (by decide) (fun _ => ?_) (fun _ => ?_)
    · refine rf_iinc C (fun v13 => [(1, .int v13), (0, .ref ((gE Γ).2.1 148)), (2, .int v10)]) dX12_cuts_126 1 rfl rfl (by decide) (fun _ => rfl) (fun v13 => ?_)
      refine rf_goto C 24 dX12_cuts_129 (by decide) ?_
      exact rf_sub [1, 0] rfl (hrec8 v13 s11 trivial)
    refine rf_iload_n C dX12_cuts_38 rfl 2 rfl ?_
    refine rf_sipush C (v := (nI 1296)) dX12_cuts_39 rfl ?_
    refine rf_jn2 (fun _ _ => True) (fun _ s15 => s15) (fun v14 s15 => [(0, .ref ((gE Γ).2.1 148)), (1, .int v6), (2, .int v10)]) (fun v14 s15 => [.int v14]) 84 (fun v14 s15 _ => ?_) (fun j16 hj16 => ?_)
    · refine rf_istore_n C (fun v17 => [(3, .int v17), (0, .ref ((gE Γ).2.1 148)), (1, .int v6), (2, .int v10)]) dX12_cuts_84 rfl (by decide) (fun _ => rfl) (fun v17 => ?_)
      refine rf_iload_n C dX12_cuts_85 rfl 0 rfl ?_
      refine rf_jn1 (fun _ => True) (fun  s18 => s18) (fun s18 => [(0, .ref ((gE Γ).2.1 148)), (1, .int v6), (2, .int v10)]) (fun s18 => []) 120 (fun s18 _ => ?_) (fun j19 hj19 => ?_)
      · refine rf_iinc C (fun v20 => [(2, .int v20), (0, .ref ((gE Γ).2.1 148)), (1, .int v6)]) dX12_cuts_120 2 rfl rfl (by decide) (fun _ => rfl) (fun v20 => ?_)
        refine rf_goto C 31 dX12_cuts_123 (by decide) ?_
        exact rf_sub [1, 2, 0] rfl (hrec12 v20 s18 trivial)
      refine rf_if_eq C 120 dX12_cuts_86 (by decide) (fun _ => ?_) (fun _ => ?_)
      · exact rf_sub [1, 2, 3] rfl (hj19 s15 trivial)
      refine rf_aload_n C dX12_cuts_89 rfl 1 rfl ?_
      refine rf_get C (v := .ref ((gE Γ).2.1 164)) cfX12 flX12_60 (by decide) oX12 rfl dX12_cuts_90 ?_
      refine rf_sipush C (v := (nI 6048)) dX12_cuts_93 rfl ?_
      refine rf_iload_n C dX12_cuts_96 rfl 2 rfl ?_
      refine rf_imul C dX12_cuts_97 ?_
      refine rf_iload_n C dX12_cuts_98 rfl 3 rfl ?_
      refine rf_sipush C (v := (nI 216)) dX12_cuts_99 rfl ?_
      refine rf_idiv C dX12_cuts_102 (by decide) ?_
      refine rf_sipush C (v := (nI 216)) dX12_cuts_103 rfl ?_
      refine rf_imul C dX12_cuts_106 ?_
      refine rf_iadd C dX12_cuts_107 ?_
      refine rf_iload_n C dX12_cuts_108 rfl 3 rfl ?_
      refine rf_sipush C (v := (nI 216)) dX12_cuts_109 rfl ?_
      refine rf_irem C dX12_cuts_112 (by decide) ?_
      refine rf_iload_n C dX12_cuts_113 rfl 2 rfl ?_
      refine rf_callSi C (rmc := rmOf 1 20) [.int (v10 - v10 / (nI 216) * (nI 216)), .int v6] (by decide) (mX12_cut (gL Γ) (v10 - v10 / (nI 216) * (nI 216)) v6 s15) mfX12_cut msX12_cut mlX12_137 rfl rfl rfl (Nat.le_of_ble_eq_true rfl) ⟨Nat.le_of_ble_eq_true rfl, Nat.le_of_ble_eq_true rfl⟩ dX12_cuts_114 (fun r22 s21 => ?_)
      refine rf_iadd C dX12_cuts_117 ?_
      refine rf_iconst C (v := (nI 1)) dX12_cuts_118 rfl ?_
      refine rf_zast C ar164 dX12_cuts_119 (fun s23 => ?_)
      exact rf_sub [1, 2, 3] rfl (hj19 s23 trivial)
    refine rf_icmp_ge C 54 dX12_cuts_42 (by decide) (fun _ => ?_) (fun _ => ?_)
    · refine rf_iload_n C dX12_cuts_54 rfl 2 rfl ?_
      refine rf_sipush C (v := (nI 2592)) dX12_cuts_55 rfl ?_
      refine rf_icmp_ge C 74 dX12_cuts_58 (by decide) (fun _ => ?_) (fun _ => ?_)
      · refine rf_aload_n C dX12_cuts_74 rfl 0 rfl ?_
        refine rf_get C (v := .ref ((gE Γ).2.1 160)) cfX12 flX12_48 (by decide) oX12 rfl dX12_cuts_75 ?_
        refine rf_iload_n C dX12_cuts_78 rfl 2 rfl ?_
        refine rf_sipush C (v := (nI 2592)) dX12_cuts_79 rfl ?_
        refine rf_isub C dX12_cuts_82 ?_
        refine rf_zald C ar160 dX12_cuts_83 (fun v24 => ?_)
        exact rf_sub [0, 1, 2] rfl (hj16 v24 s11 trivial)
      refine rf_aload_n C dX12_cuts_61 rfl 0 rfl ?_
      refine rf_get C (v := .ref ((gE Γ).2.1 159)) cfX12 flX12_45 (by decide) oX12 rfl dX12_cuts_62 ?_
      refine rf_iload_n C dX12_cuts_65 rfl 2 rfl ?_
      refine rf_sipush C (v := (nI 1296)) dX12_cuts_66 rfl ?_
      refine rf_isub C dX12_cuts_69 ?_
      refine rf_zald C ar159 dX12_cuts_70 (fun v25 => ?_)
      refine rf_goto C 84 dX12_cuts_71 (by decide) ?_
      exact rf_sub [0, 1, 2] rfl (hj16 v25 s11 trivial)
    refine rf_aload_n C dX12_cuts_45 rfl 0 rfl ?_
    refine rf_get C (v := .ref ((gE Γ).2.1 158)) cfX12 flX12_42 (by decide) oX12 rfl dX12_cuts_46 ?_
    refine rf_iload_n C dX12_cuts_49 rfl 2 rfl ?_
    refine rf_zald C ar158 dX12_cuts_50 (fun v26 => ?_)
    refine rf_goto C 84 dX12_cuts_51 (by decide) ?_
    exact rf_sub [0, 1, 2] rfl (hj16 v26 s11 trivial)
  refine rf_aload_n C dX12_cuts_9 rfl 0 rfl ?_
  refine rf_get C (v := .ref ((gE Γ).2.1 164)) cfX12 flX12_60 (by decide) oX12 rfl dX12_cuts_10 ?_
  refine rf_iload_n C dX12_cuts_13 rfl 1 rfl ?_
  refine rf_iconst C (v := (nI 0)) dX12_cuts_14 rfl ?_
  refine rf_zast C ar164 dX12_cuts_15 (fun s27 => ?_)
  refine rf_iinc C (fun v28 => [(1, .int v28), (0, .ref ((gE Γ).2.1 148))]) dX12_cuts_16 1 rfl rfl (by decide) (fun _ => rfl) (fun v28 => ?_)
  refine rf_goto C 2 dX12_cuts_19 (by decide) ?_
  exact rf_sub [1, 0] rfl (hrec4 v28 s27 trivial)

def fX12_lays (n : Nat) (s0 : PH) : Option (Unit × PH) :=
(bd (fX12_laysEmpty n s0) fun _ (s1 : PH) =>
(bd (fX12_laysFewest n s1) fun _ (s2 : PH) =>
(bd (fX12_laysReached n s2) fun _ (s3 : PH) =>
(bd (fX12_laysTurns n s3) fun _ (s4 : PH) =>
(bd (fX12_laysFirsts n s4) fun _ (s5 : PH) =>
(bd (fX12_laysFollows n s5) fun _ (s6 : PH) =>
(bd (fX12_laysAheads n s6) fun _ (s7 : PH) =>
(bd (fX12_cuts n s7) fun _ (s8 : PH) =>
(some ((), s8))))))))))
set_option maxRecDepth 20000 in
set_option maxHeartbeats 2000000 in
theorem mX12_lays (l : Launch) (n : Nat) (s0 : PH) : Ctv 174 l yX12_lays cX12_lays 1 none (rmOf 6 136) (fun E => [.ref (E.2.1 148)]) s0 (fX12_lays n s0) := by
  refine Ctv.of (by decide) rfl (lv := fun E => [(0, .ref (E.2.1 148))]) (fun _ => Nat.le_of_ble_eq_true rfl) (fun _ => rfl) (fun Γ hΓ _ C => ?_)
  subst hΓ
  unfold fX12_lays
  refine rf_aload_n C dX12_lays_0 rfl 0 rfl ?_
  refine rf_callVv C (rmc := rmOf 2 47) [] (by decide) (mX12_laysEmpty (gL Γ) n s0) mfX12_laysEmpty mvX12_laysEmpty mlX12_158 rfl oX12 rfl rfl rfl (Nat.le_of_ble_eq_true rfl) ⟨Nat.le_of_ble_eq_true rfl, Nat.le_of_ble_eq_true rfl⟩ dX12_lays_1 (fun s1 => ?_)
  refine rf_aload_n C dX12_lays_4 rfl 0 rfl ?_
  refine rf_callVv C (rmc := rmOf 1 22) [] (by decide) (mX12_laysFewest (gL Γ) n s1) mfX12_laysFewest mvX12_laysFewest mlX12_161 rfl oX12 rfl rfl rfl (Nat.le_of_ble_eq_true rfl) ⟨Nat.le_of_ble_eq_true rfl, Nat.le_of_ble_eq_true rfl⟩ dX12_lays_5 (fun s2 => ?_)
  refine rf_aload_n C dX12_lays_8 rfl 0 rfl ?_
  refine rf_callVv C (rmc := rmOf 1 22) [] (by decide) (mX12_laysReached (gL Γ) n s2) mfX12_laysReached mvX12_laysReached mlX12_164 rfl oX12 rfl rfl rfl (Nat.le_of_ble_eq_true rfl) ⟨Nat.le_of_ble_eq_true rfl, Nat.le_of_ble_eq_true rfl⟩ dX12_lays_9 (fun s3 => ?_)
  refine rf_aload_n C dX12_lays_12 rfl 0 rfl ?_
  refine rf_callVv C (rmc := rmOf 2 47) [] (by decide) (mX12_laysTurns (gL Γ) n s3) mfX12_laysTurns mvX12_laysTurns mlX12_167 rfl oX12 rfl rfl rfl (Nat.le_of_ble_eq_true rfl) ⟨Nat.le_of_ble_eq_true rfl, Nat.le_of_ble_eq_true rfl⟩ dX12_lays_13 (fun s4 => ?_)
  refine rf_aload_n C dX12_lays_16 rfl 0 rfl ?_
  refine rf_callVv C (rmc := rmOf 5 113) [] (by decide) (mX12_laysFirsts (gL Γ) n s4) mfX12_laysFirsts mvX12_laysFirsts mlX12_170 rfl oX12 rfl rfl rfl (Nat.le_of_ble_eq_true rfl) ⟨Nat.le_of_ble_eq_true rfl, Nat.le_of_ble_eq_true rfl⟩ dX12_lays_17 (fun s5 => ?_)
  refine rf_aload_n C dX12_lays_20 rfl 0 rfl ?_
  refine rf_callVv C (rmc := rmOf 5 113) [] (by decide) (mX12_laysFollows (gL Γ) n s5) mfX12_laysFollows mvX12_laysFollows mlX12_173 rfl oX12 rfl rfl rfl (Nat.le_of_ble_eq_true rfl) ⟨Nat.le_of_ble_eq_true rfl, Nat.le_of_ble_eq_true rfl⟩ dX12_lays_21 (fun s6 => ?_)
  refine rf_aload_n C dX12_lays_24 rfl 0 rfl ?_
  refine rf_callVv C (rmc := rmOf 5 113) [] (by decide) (mX12_laysAheads (gL Γ) n s6) mfX12_laysAheads mvX12_laysAheads mlX12_176 rfl oX12 rfl rfl rfl (Nat.le_of_ble_eq_true rfl) ⟨Nat.le_of_ble_eq_true rfl, Nat.le_of_ble_eq_true rfl⟩ dX12_lays_25 (fun s7 => ?_)
  refine rf_aload_n C dX12_lays_28 rfl 0 rfl ?_
  refine rf_callVv C (rmc := rmOf 2 42) [] (by decide) (mX12_cuts (gL Γ) n s7) mfX12_cuts mvX12_cuts mlX12_179 rfl oX12 rfl rfl rfl (Nat.le_of_ble_eq_true rfl) ⟨Nat.le_of_ble_eq_true rfl, Nat.le_of_ble_eq_true rfl⟩ dX12_lays_29 (fun s8 => ?_)
  exact rf_vret C dX12_lays_32

def fJ7_fill_53178 (n : Nat) (a1 a1n : Nat) (a2 : Int32) (s0 : PH) : Option (Unit × PH) :=
(lt (nI 0) fun (v1 : Int32) =>
(lt (nI a1n) fun (v2 : Int32) =>
(loo2 (fun (recrec5 : Int32 → PH → Option (Unit × PH)) (v3 : Int32) (s4 : PH) =>
(if v2 ≤ v3 then
(some ((), s4))
else
(wa a1n v3 (lt (si s4 a1 v3.toNatClampNeg a2) fun (s6 : PH) =>
(lt (v3 + (nI 1)) fun (v7 : Int32) =>
(recrec5 v7 s6)))))) n v1 s0)))
set_option maxRecDepth 20000 in
set_option maxHeartbeats 2000000 in
theorem mJ7_fill_53178 (l : Launch) (n : Nat) (a1 a1n : Nat) (a2 : Int32) (s0 : PH) (ha1 : isI 148 a1 a1n) : Ctv 148 l yJ7_fill_53178 cJ7_fill_53178 4 none (rmOf 0 0) (fun E => [.ref (E.2.1 a1), .int a2]) s0 (fJ7_fill_53178 n a1 a1n a2 s0) := by
  refine Ctv.of (by decide) rfl (lv := fun E => [(0, .ref (E.2.1 a1)), (1, .int a2)]) (fun _ => Nat.le_of_ble_eq_true rfl) (fun _ => rfl) (fun Γ hΓ _ C => ?_)
  subst hΓ
  unfold fJ7_fill_53178
  refine rf_iconst C (v := (nI 0)) dJ7_fill_53178_0 rfl ?_
  refine rf_istore_n C (fun v1 => [(2, .int v1), (0, .ref ((gE Γ).2.1 a1)), (1, .int a2)]) dJ7_fill_53178_1 rfl (by decide) (fun _ => rfl) (fun v1 => ?_)
  refine rf_aload_n C dJ7_fill_53178_2 rfl 1 rfl ?_
  refine rf_alenI C (v := (nI a1n)) ha1 rfl dJ7_fill_53178_3 ?_
  refine rf_istore_n C (fun v2 => [(3, .int v2), (2, .int v1), (0, .ref ((gE Γ).2.1 a1)), (1, .int a2)]) dJ7_fill_53178_4 rfl (by decide) (fun _ => rfl) (fun v2 => ?_)
  refine rf_sub [2, 3, 1, 0] rfl ?_
  refine rf_loo2 (fun _ _ => True) (fun _ s4 => s4) (fun v3 s4 => [(0, .ref ((gE Γ).2.1 a1)), (1, .int a2), (2, .int v3), (3, .int v2)]) (fun recrec5 hrec5 v3 s4 _ => ?_) n v1 s0 trivial
  refine rf_iload_n C dJ7_fill_53178_5 rfl 2 rfl ?_
  refine rf_iload_n C dJ7_fill_53178_6 rfl 3 rfl ?_
  refine rf_icmp_ge C 20 dJ7_fill_53178_7 (by decide) (fun _ => ?_) (fun _ => ?_)
  · exact rf_vret C dJ7_fill_53178_20
  refine rf_aload_n C dJ7_fill_53178_10 rfl 0 rfl ?_
  refine rf_iload_n C dJ7_fill_53178_11 rfl 2 rfl ?_
  refine rf_iload_n C dJ7_fill_53178_12 rfl 1 rfl ?_
  refine rf_iast C ha1 dJ7_fill_53178_13 (fun s6 => ?_)
  refine rf_iinc C (fun v7 => [(2, .int v7), (0, .ref ((gE Γ).2.1 a1)), (1, .int a2), (3, .int v2)]) dJ7_fill_53178_14 2 rfl rfl (by decide) (fun _ => rfl) (fun v7 => ?_)
  refine rf_goto C 5 dJ7_fill_53178_17 (by decide) ?_
  exact rf_sub [1, 2, 0, 3] rfl (hrec5 v7 s6 trivial)

def fX4_count (t : Nat) (s0 : PH) : Option (Int32 × PH) :=
(some ((s0.1 (gId t 0) 5), s0))
set_option maxRecDepth 20000 in
set_option maxHeartbeats 2000000 in
theorem mX4_count (l : Launch) (t : Nat) (s0 : PH) (ht : t < 6) : Cti 148 l yX4_count cX4_count 1 (some .int) (rmOf 0 0) (fun E => [.ref (E.2.1 (gId t 0))]) s0 (fX4_count t s0) := by
  refine Cti.of (by decide) rfl (lv := fun E => [(0, .ref (E.2.1 (gId t 0)))]) (fun _ => Nat.le_of_ble_eq_true rfl) (fun _ => rfl) (fun Γ hΓ _ C => ?_)
  subst hΓ
  unfold fX4_count
  refine rf_aload_n C dX4_count_0 rfl 0 rfl ?_
  refine rf_get C (v := .int (s0.1 (gId t 0) 5)) cfX4 flX4_27 (by decide) (oX4 ht) rfl dX4_count_1 ?_
  exact rf_iret C dX4_count_4

def fX4_length (t : Nat) (a1 : Int32) (s0 : PH) : Option (Int32 × PH) :=
(ra 16 a1 (s0.1 (gId t 2)) fun (v1 : Int32) =>
(some (v1, s0)))
set_option maxRecDepth 20000 in
set_option maxHeartbeats 2000000 in
theorem mX4_length (l : Launch) (t : Nat) (a1 : Int32) (s0 : PH) (ht : t < 6) : Cti 148 l yX4_length cX4_length 2 (some .int) (rmOf 0 0) (fun E => [.ref (E.2.1 (gId t 0)), .int a1]) s0 (fX4_length t a1 s0) := by
  refine Cti.of (by decide) rfl (lv := fun E => [(0, .ref (E.2.1 (gId t 0))), (1, .int a1)]) (fun _ => Nat.le_of_ble_eq_true rfl) (fun _ => rfl) (fun Γ hΓ _ C => ?_)
  subst hΓ
  unfold fX4_length
  refine rf_aload_n C dX4_length_0 rfl 0 rfl ?_
  refine rf_get C (v := .ref ((gE Γ).2.1 (gId t 2))) cfX4 flX4_15 (by decide) (oX4 ht) rfl dX4_length_1 ?_
  refine rf_iload_n C dX4_length_4 rfl 1 rfl ?_
  refine rf_iald C (arG2 ht) dX4_length_5 (fun v1 => ?_)
  exact rf_iret C dX4_length_6

def fX4_symbolAt (t : Nat) (a1 : Int32) (a2 : Int32) (s0 : PH) : Option (Int32 × PH) :=
(ra 80 ((a1 * (nI 5)) + a2) (s0.1 (gId t 3)) fun (v1 : Int32) =>
(some (v1, s0)))
set_option maxRecDepth 20000 in
set_option maxHeartbeats 2000000 in
theorem mX4_symbolAt (l : Launch) (t : Nat) (a1 : Int32) (a2 : Int32) (s0 : PH) (ht : t < 6) : Cti 148 l yX4_symbolAt cX4_symbolAt 3 (some .int) (rmOf 0 0) (fun E => [.ref (E.2.1 (gId t 0)), .int a1, .int a2]) s0 (fX4_symbolAt t a1 a2 s0) := by
  refine Cti.of (by decide) rfl (lv := fun E => [(0, .ref (E.2.1 (gId t 0))), (1, .int a1), (2, .int a2)]) (fun _ => Nat.le_of_ble_eq_true rfl) (fun _ => rfl) (fun Γ hΓ _ C => ?_)
  subst hΓ
  unfold fX4_symbolAt
  refine rf_aload_n C dX4_symbolAt_0 rfl 0 rfl ?_
  refine rf_get C (v := .ref ((gE Γ).2.1 (gId t 3))) cfX4 flX4_18 (by decide) (oX4 ht) rfl dX4_symbolAt_1 ?_
  refine rf_iload_n C dX4_symbolAt_4 rfl 1 rfl ?_
  refine rf_iconst C (v := (nI 5)) dX4_symbolAt_5 rfl ?_
  refine rf_imul C dX4_symbolAt_6 ?_
  refine rf_iload_n C dX4_symbolAt_7 rfl 2 rfl ?_
  refine rf_iadd C dX4_symbolAt_8 ?_
  refine rf_iald C (arG3 ht) dX4_symbolAt_9 (fun v1 => ?_)
  exact rf_iret C dX4_symbolAt_10

def fX11_isLetter (a1 : Int32) (s0 : PH) : Option (Int32 × PH) :=
(if (nI 10) ≤ a1 then
(some ((nI 0), s0))
else
(some ((nI 1), s0)))
set_option maxRecDepth 20000 in
set_option maxHeartbeats 2000000 in
theorem mX11_isLetter (l : Launch) (a1 : Int32) (s0 : PH) : Cti 148 l yX11_isLetter cX11_isLetter 1 (some .boolean) (rmOf 0 0) (fun E => [.int a1]) s0 (fX11_isLetter a1 s0) := by
  refine Cti.of (by decide) rfl (lv := fun E => [(0, .int a1)]) (fun _ => Nat.le_of_ble_eq_true rfl) (fun _ => rfl) (fun Γ hΓ _ C => ?_)
  subst hΓ
  unfold fX11_isLetter
  refine rf_iload_n C dX11_isLetter_0 rfl 0 rfl ?_
  refine rf_bipush C (v := (nI 10)) dX11_isLetter_1 rfl ?_
  refine rf_icmp_ge C 10 dX11_isLetter_3 (by decide) (fun _ => ?_) (fun _ => ?_)
  · refine rf_iconst C (v := (nI 0)) dX11_isLetter_10 rfl ?_
    exact rf_zret C rfl dX11_isLetter_11
  refine rf_iconst C (v := (nI 1)) dX11_isLetter_6 rfl ?_
  refine rf_goto C 11 dX11_isLetter_7 (by decide) ?_
  exact rf_zret C rfl dX11_isLetter_11

def fX9_findTails (n : Nat) (a1 : Nat) (a2 : Int32) (s0 : PH) : Option (Unit × PH) :=
(lt (nI 0) fun (v1 : Int32) =>
(bd (fX4_length a1 a2 s0) fun (r3 : Int32) (s2 : PH) =>
(wa 96 ((a2 * (nI 6)) + r3) (lt (si s2 9 ((a2 * (nI 6)) + r3).toNatClampNeg (nI 0)) fun (s4 : PH) =>
(bd (fX4_length a1 a2 s4) fun (r6 : Int32) (s5 : PH) =>
(lt (r6 - (nI 1)) fun (v7 : Int32) =>
(loo3 (fun (recrec11 : Int32 → Int32 → PH → Option (Unit × PH)) (v8 : Int32) (v9 : Int32) (s10 : PH) =>
(if v9 < 0 then
(some ((), s10))
else
(bd (fX4_symbolAt a1 a2 v9 s10) fun (r13 : Int32) (s12 : PH) =>
(lt r13 fun (v14 : Int32) =>
(bd (fX11_isLetter v14 s12) fun (r16 : Int32) (s15 : PH) =>
(jn (fun (v17 : Int32) (s18 : PH) =>
(lt v17 fun (v20 : Int32) =>
(lt (if (v8 + v20) < (nI 1000000) then (v8 + v20) else (nI 1000000)) fun (v21 : Int32) =>
(wa 96 ((a2 * (nI 6)) + v9) (lt (si s18 9 ((a2 * (nI 6)) + v9).toNatClampNeg v21) fun (s22 : PH) =>
(lt (v9 + (-1 : Int32)) fun (v23 : Int32) =>
(recrec11 v21 v23 s22))))))) (fun (j19 : Int32 → PH → Option (Unit × PH)) =>
(if r16 = 0 then
(ra 6 (v14 - (nI 10)) (s15.1 8) fun (v24 : Int32) =>
(j19 v24 s15))
else
(j19 (nI 1) s15))))))))) n v1 v7 s5)))))))
set_option maxRecDepth 20000 in
set_option maxHeartbeats 2000000 in
theorem mX9_findTails (l : Launch) (n : Nat) (a1 : Nat) (a2 : Int32) (s0 : PH) (ha1 : a1 < 6) : Ctv 148 l yX9_findTails cX9_findTails 7 none (rmOf 1 22) (fun E => [.ref (E.2.1 7), .ref (E.2.1 (gId a1 0)), .int a2]) s0 (fX9_findTails n a1 a2 s0) := by
  refine Ctv.of (by decide) rfl (lv := fun E => [(0, .ref (E.2.1 7)), (1, .ref (E.2.1 (gId a1 0))), (2, .int a2)]) (fun _ => Nat.le_of_ble_eq_true rfl) (fun _ => rfl) (fun Γ hΓ _ C => ?_)
  subst hΓ
  unfold fX9_findTails
  refine rf_iconst C (v := (nI 0)) dX9_findTails_0 rfl ?_
  refine rf_istore_n C (fun v1 => [(3, .int v1), (0, .ref ((gE Γ).2.1 7)), (1, .ref ((gE Γ).2.1 (gId a1 0))), (2, .int a2)]) dX9_findTails_1 rfl (by decide) (fun _ => rfl) (fun v1 => ?_)
  refine rf_aload_n C dX9_findTails_2 rfl 1 rfl ?_
  refine rf_get C (v := .ref ((gE Γ).2.1 9)) cfX9 flX9_15 (by decide) oX9 rfl dX9_findTails_3 ?_
  refine rf_iload_n C dX9_findTails_6 rfl 3 rfl ?_
  refine rf_bipush C (v := (nI 6)) dX9_findTails_7 rfl ?_
  refine rf_imul C dX9_findTails_9 ?_
  refine rf_aload_n C dX9_findTails_10 rfl 2 rfl ?_
  refine rf_iload_n C dX9_findTails_11 rfl 3 rfl ?_
  refine rf_callVi C (rmc := rmOf 0 0) [.int a2] (by decide) (mX4_length (gL Γ) a1 a2 s0 ha1) mfX4_length mvX4_length mlX9_90 rfl (oX4 ha1) rfl rfl rfl (Nat.le_of_ble_eq_true rfl) ⟨Nat.le_of_ble_eq_true rfl, Nat.le_of_ble_eq_true rfl⟩ dX9_findTails_12 (fun r3 s2 => ?_)
  refine rf_iadd C dX9_findTails_15 ?_
  refine rf_iconst C (v := (nI 0)) dX9_findTails_16 rfl ?_
  refine rf_iast C ar9 dX9_findTails_17 (fun s4 => ?_)
  refine rf_aload_n C dX9_findTails_18 rfl 2 rfl ?_
  refine rf_iload_n C dX9_findTails_19 rfl 3 rfl ?_
  refine rf_callVi C (rmc := rmOf 0 0) [.int a2] (by decide) (mX4_length (gL Γ) a1 a2 s4 ha1) mfX4_length mvX4_length mlX9_90 rfl (oX4 ha1) rfl rfl rfl (Nat.le_of_ble_eq_true rfl) ⟨Nat.le_of_ble_eq_true rfl, Nat.le_of_ble_eq_true rfl⟩ dX9_findTails_20 (fun r6 s5 => ?_)
  refine rf_iconst C (v := (nI 1)) dX9_findTails_23 rfl ?_
  refine rf_isub C dX9_findTails_24 ?_
  refine rf_istore C (fun v7 => [(4, .int v7), (3, .int v1), (0, .ref ((gE Γ).2.1 7)), (1, .ref ((gE Γ).2.1 (gId a1 0))), (2, .int a2)]) dX9_findTails_25 (by decide) (fun _ => rfl) (fun v7 => ?_)
  refine rf_sub [2, 3, 4, 1, 0] rfl ?_
  refine rf_loo3 (fun _ _ _ => True) (fun _ _ s10 => s10) (fun v8 v9 s10 => [(0, .ref ((gE Γ).2.1 7)), (1, .ref ((gE Γ).2.1 (gId a1 0))), (2, .int a2), (3, .int v8), (4, .int v9)]) (fun recrec11 hrec11 v8 v9 s10 _ => ?_) n v1 v7 s5 trivial
  refine rf_iload C dX9_findTails_27 4 rfl ?_
  refine rf_if_lt C 94 dX9_findTails_29 (by decide) (fun _ => ?_) (fun _ => ?_)
  · exact rf_vret C dX9_findTails_94
  refine rf_aload_n C dX9_findTails_32 rfl 1 rfl ?_
  refine rf_iload_n C dX9_findTails_33 rfl 2 rfl ?_
  refine rf_iload C dX9_findTails_34 4 rfl ?_
  refine rf_callVi C (rmc := rmOf 0 0) [.int a2, .int v9] (by decide) (mX4_symbolAt (gL Γ) a1 a2 v9 s10 ha1) mfX4_symbolAt mvX4_symbolAt mlX9_93 rfl (oX4 ha1) rfl rfl rfl (Nat.le_of_ble_eq_true rfl) ⟨Nat.le_of_ble_eq_true rfl, Nat.le_of_ble_eq_true rfl⟩ dX9_findTails_36 (fun r13 s12 => ?_)
  refine rf_istore C (fun v14 => [(5, .int v14), (0, .ref ((gE Γ).2.1 7)), (1, .ref ((gE Γ).2.1 (gId a1 0))), (2, .int a2), (3, .int v8), (4, .int v9)]) dX9_findTails_39 (by decide) (fun _ => rfl) (fun v14 => ?_)
  refine rf_iload C dX9_findTails_41 0 rfl ?_
  refine rf_callSNi C (rmc := rmOf 0 0) [.int v14] (by decide) (mX11_isLetter (gL Γ) v14 s12) mfX11_isLetter msX11_isLetter (by decide) rfl rfl rfl (Nat.le_of_ble_eq_true rfl) ⟨Nat.le_of_ble_eq_true rfl, Nat.le_of_ble_eq_true rfl⟩ dX9_findTails_43 (fun r16 s15 => ?_)
  refine rf_jn2 (fun _ _ => True) (fun _ s18 => s18) (fun v17 s18 => [(0, .ref ((gE Γ).2.1 7)), (1, .ref ((gE Γ).2.1 (gId a1 0))), (2, .int a2), (3, .int v8), (4, .int v9)]) (fun v17 s18 => [.int v17]) 63 (fun v17 s18 _ => ?_) (fun j19 hj19 => ?_)
  · refine rf_istore C (fun v20 => [(6, .int v20), (0, .ref ((gE Γ).2.1 7)), (1, .ref ((gE Γ).2.1 (gId a1 0))), (2, .int a2), (3, .int v8), (4, .int v9)]) dX9_findTails_63 (by decide) (fun _ => rfl) (fun v20 => ?_)
    refine rf_ldc C dX9_findTails_65 kiX9_60 ?_
    refine rf_iload_n C dX9_findTails_67 rfl 4 rfl ?_
    refine rf_iload C dX9_findTails_68 0 rfl ?_
    refine rf_iadd C dX9_findTails_70 ?_
    refine rf_mmin C mlX9_85 (Nat.le_of_ble_eq_true rfl) (Nat.le_of_ble_eq_true rfl) mthmin dX9_findTails_71 ?_
    refine rf_istore_n C (fun v21 => [(3, .int v21), (6, .int v20), (0, .ref ((gE Γ).2.1 7)), (1, .ref ((gE Γ).2.1 (gId a1 0))), (2, .int a2), (4, .int v9)]) dX9_findTails_74 rfl (by decide) (fun _ => rfl) (fun v21 => ?_)
    refine rf_aload_n C dX9_findTails_75 rfl 2 rfl ?_
    refine rf_get C (v := .ref ((gE Γ).2.1 9)) cfX9 flX9_15 (by decide) oX9 rfl dX9_findTails_76 ?_
    refine rf_iload_n C dX9_findTails_79 rfl 4 rfl ?_
    refine rf_bipush C (v := (nI 6)) dX9_findTails_80 rfl ?_
    refine rf_imul C dX9_findTails_82 ?_
    refine rf_iload C dX9_findTails_83 5 rfl ?_
    refine rf_iadd C dX9_findTails_85 ?_
    refine rf_iload_n C dX9_findTails_86 rfl 0 rfl ?_
    refine rf_iast C ar9 dX9_findTails_87 (fun s22 => ?_)
    refine rf_iinc C (fun v23 => [(4, .int v23), (3, .int v21), (6, .int v20), (0, .ref ((gE Γ).2.1 7)), (1, .ref ((gE Γ).2.1 (gId a1 0))), (2, .int a2)]) dX9_findTails_88 5 rfl rfl (by decide) (fun _ => rfl) (fun v23 => ?_)
    refine rf_goto C 27 dX9_findTails_91 (by decide) ?_
    exact rf_sub [3, 4, 5, 1, 0] rfl (hrec11 v21 v23 s22 trivial)
  refine rf_if_eq C 53 dX9_findTails_46 (by decide) (fun _ => ?_) (fun _ => ?_)
  · refine rf_aload_n C dX9_findTails_53 rfl 1 rfl ?_
    refine rf_get C (v := .ref ((gE Γ).2.1 8)) cfX9 flX9_9 (by decide) oX9 rfl dX9_findTails_54 ?_
    refine rf_iload C dX9_findTails_57 0 rfl ?_
    refine rf_bipush C (v := (nI 10)) dX9_findTails_59 rfl ?_
    refine rf_isub C dX9_findTails_61 ?_
    refine rf_iald C ar8 dX9_findTails_62 (fun v24 => ?_)
    exact rf_sub [1, 2, 3, 4, 5] rfl (hj19 v24 s15 trivial)
  refine rf_iconst C (v := (nI 1)) dX9_findTails_49 rfl ?_
  refine rf_goto C 63 dX9_findTails_50 (by decide) ?_
  exact rf_sub [1, 2, 3, 4, 5] rfl (hj19 (nI 1) s15 trivial)

def fX4_left (t : Nat) (a1 : Int32) (s0 : PH) : Option (Int32 × PH) :=
(ra 16 a1 (s0.1 (gId t 1)) fun (v1 : Int32) =>
(some (v1, s0)))
set_option maxRecDepth 20000 in
set_option maxHeartbeats 2000000 in
theorem mX4_left (l : Launch) (t : Nat) (a1 : Int32) (s0 : PH) (ht : t < 6) : Cti 148 l yX4_left cX4_left 2 (some .int) (rmOf 0 0) (fun E => [.ref (E.2.1 (gId t 0)), .int a1]) s0 (fX4_left t a1 s0) := by
  refine Cti.of (by decide) rfl (lv := fun E => [(0, .ref (E.2.1 (gId t 0))), (1, .int a1)]) (fun _ => Nat.le_of_ble_eq_true rfl) (fun _ => rfl) (fun Γ hΓ _ C => ?_)
  subst hΓ
  unfold fX4_left
  refine rf_aload_n C dX4_left_0 rfl 0 rfl ?_
  refine rf_get C (v := .ref ((gE Γ).2.1 (gId t 1))) cfX4 flX4_9 (by decide) (oX4 ht) rfl dX4_left_1 ?_
  refine rf_iload_n C dX4_left_4 rfl 1 rfl ?_
  refine rf_iald C (arG1 ht) dX4_left_5 (fun v1 => ?_)
  exact rf_iret C dX4_left_6

def fX9_tail (a1 : Int32) (a2 : Int32) (s0 : PH) : Option (Int32 × PH) :=
(ra 96 ((a1 * (nI 6)) + a2) (s0.1 9) fun (v1 : Int32) =>
(some (v1, s0)))
set_option maxRecDepth 20000 in
set_option maxHeartbeats 2000000 in
theorem mX9_tail (l : Launch) (a1 : Int32) (a2 : Int32) (s0 : PH) : Cti 148 l yX9_tail cX9_tail 3 (some .int) (rmOf 0 0) (fun E => [.ref (E.2.1 7), .int a1, .int a2]) s0 (fX9_tail a1 a2 s0) := by
  refine Cti.of (by decide) rfl (lv := fun E => [(0, .ref (E.2.1 7)), (1, .int a1), (2, .int a2)]) (fun _ => Nat.le_of_ble_eq_true rfl) (fun _ => rfl) (fun Γ hΓ _ C => ?_)
  subst hΓ
  unfold fX9_tail
  refine rf_aload_n C dX9_tail_0 rfl 0 rfl ?_
  refine rf_get C (v := .ref ((gE Γ).2.1 9)) cfX9 flX9_15 (by decide) oX9 rfl dX9_tail_1 ?_
  refine rf_iload_n C dX9_tail_4 rfl 1 rfl ?_
  refine rf_bipush C (v := (nI 6)) dX9_tail_5 rfl ?_
  refine rf_imul C dX9_tail_7 ?_
  refine rf_iload_n C dX9_tail_8 rfl 2 rfl ?_
  refine rf_iadd C dX9_tail_9 ?_
  refine rf_iald C ar9 dX9_tail_10 (fun v1 => ?_)
  exact rf_iret C dX9_tail_11

def fX9_findFewest (n : Nat) (a1 : Nat) (s0 : PH) : Option (Unit × PH) :=
(bd (fJ7_fill_53178 n 8 6 (nI 1000000) s0) fun _ (s1 : PH) =>
(lt (nI 0) fun (v2 : Int32) =>
(loo2 (fun (recrec5 : Int32 → PH → Option (Unit × PH)) (v3 : Int32) (s4 : PH) =>
(if (nI 6) < v3 then
(some ((), s4))
else
(lt (nI 0) fun (v6 : Int32) =>
(loo2 (fun (recrec9 : Int32 → PH → Option (Unit × PH)) (v7 : Int32) (s8 : PH) =>
(bd (fX4_count a1 s8) fun (r11 : Int32) (s10 : PH) =>
(if r11 ≤ v7 then
(lt (v3 + (nI 1)) fun (v12 : Int32) =>
(recrec5 v12 s10))
else
(bd (fX9_findTails n a1 v7 s10) fun _ (s13 : PH) =>
(bd (fX4_left a1 v7 s13) fun (r15 : Int32) (s14 : PH) =>
(lt r15 fun (v16 : Int32) =>
(ra 6 v16 (s14.1 8) fun (v17 : Int32) =>
(bd (fX9_tail v7 (nI 0) s14) fun (r19 : Int32) (s18 : PH) =>
(wa 6 v16 (lt (si s18 8 v16.toNatClampNeg (if r19 < v17 then r19 else v17)) fun (s20 : PH) =>
(lt (v7 + (nI 1)) fun (v21 : Int32) =>
(recrec9 v21 s20)))))))))))) n v6 s4)))) n v2 s1)))
set_option maxRecDepth 20000 in
set_option maxHeartbeats 2000000 in
theorem mX9_findFewest (l : Launch) (n : Nat) (a1 : Nat) (s0 : PH) (ha1 : a1 < 6) : Ctv 148 l yX9_findFewest cX9_findFewest 5 none (rmOf 2 48) (fun E => [.ref (E.2.1 7), .ref (E.2.1 (gId a1 0))]) s0 (fX9_findFewest n a1 s0) := by
  refine Ctv.of (by decide) rfl (lv := fun E => [(0, .ref (E.2.1 7)), (1, .ref (E.2.1 (gId a1 0)))]) (fun _ => Nat.le_of_ble_eq_true rfl) (fun _ => rfl) (fun Γ hΓ _ C => ?_)
  subst hΓ
  unfold fX9_findFewest
  refine rf_aload_n C dX9_findFewest_0 rfl 0 rfl ?_
  refine rf_get C (v := .ref ((gE Γ).2.1 8)) cfX9 flX9_9 (by decide) oX9 rfl dX9_findFewest_1 ?_
  refine rf_ldc C dX9_findFewest_4 kiX9_60 ?_
  refine rf_callSv C (rmc := rmOf 0 0) [.ref ((gE Γ).2.1 8), .int (nI 1000000)] (by decide) (mJ7_fill_53178 (gL Γ) n 8 6 (nI 1000000) s0 ar8) mfJ7_fill_53178 msJ7_fill_53178 mlX9_61 rfl rfl rfl (Nat.le_of_ble_eq_true rfl) ⟨Nat.le_of_ble_eq_true rfl, Nat.le_of_ble_eq_true rfl⟩ dX9_findFewest_6 (fun s1 => ?_)
  refine rf_iconst C (v := (nI 0)) dX9_findFewest_9 rfl ?_
  refine rf_istore_n C (fun v2 => [(2, .int v2), (0, .ref ((gE Γ).2.1 7)), (1, .ref ((gE Γ).2.1 (gId a1 0)))]) dX9_findFewest_10 rfl (by decide) (fun _ => rfl) (fun v2 => ?_)
  refine rf_sub [1, 2, 0] rfl ?_
  refine rf_loo2 (fun _ _ => True) (fun _ s4 => s4) (fun v3 s4 => [(0, .ref ((gE Γ).2.1 7)), (1, .ref ((gE Γ).2.1 (gId a1 0))), (2, .int v3)]) (fun recrec5 hrec5 v3 s4 _ => ?_) n v2 s1 trivial
  refine rf_iload_n C dX9_findFewest_11 rfl 2 rfl ?_
  refine rf_bipush C (v := (nI 6)) dX9_findFewest_12 rfl ?_
  refine rf_icmp_gt C 75 dX9_findFewest_14 (by decide) (fun _ => ?_) (fun _ => ?_)
  · exact rf_vret C dX9_findFewest_75
  refine rf_iconst C (v := (nI 0)) dX9_findFewest_17 rfl ?_
  refine rf_istore_n C (fun v6 => [(3, .int v6), (0, .ref ((gE Γ).2.1 7)), (1, .ref ((gE Γ).2.1 (gId a1 0))), (2, .int v3)]) dX9_findFewest_18 rfl (by decide) (fun _ => rfl) (fun v6 => ?_)
  refine rf_sub [1, 2, 3, 0] rfl ?_
  refine rf_loo2 (fun _ _ => True) (fun _ s8 => s8) (fun v7 s8 => [(0, .ref ((gE Γ).2.1 7)), (1, .ref ((gE Γ).2.1 (gId a1 0))), (2, .int v3), (3, .int v7)]) (fun recrec9 hrec9 v7 s8 _ => ?_) n v6 s4 trivial
  refine rf_iload_n C dX9_findFewest_19 rfl 3 rfl ?_
  refine rf_aload_n C dX9_findFewest_20 rfl 1 rfl ?_
  refine rf_callVi C (rmc := rmOf 0 0) [] (by decide) (mX4_count (gL Γ) a1 s8 ha1) mfX4_count mvX4_count mlX9_67 rfl (oX4 ha1) rfl rfl rfl (Nat.le_of_ble_eq_true rfl) ⟨Nat.le_of_ble_eq_true rfl, Nat.le_of_ble_eq_true rfl⟩ dX9_findFewest_21 (fun r11 s10 => ?_)
  refine rf_icmp_ge C 69 dX9_findFewest_24 (by decide) (fun _ => ?_) (fun _ => ?_)
  · refine rf_iinc C (fun v12 => [(2, .int v12), (0, .ref ((gE Γ).2.1 7)), (1, .ref ((gE Γ).2.1 (gId a1 0))), (3, .int v7)]) dX9_findFewest_69 2 rfl rfl (by decide) (fun _ => rfl) (fun v12 => ?_)
    refine rf_goto C 11 dX9_findFewest_72 (by decide) ?_
    exact rf_sub [1, 2, 0] rfl (hrec5 v12 s10 trivial)
  refine rf_aload_n C dX9_findFewest_27 rfl 0 rfl ?_
  refine rf_aload_n C dX9_findFewest_28 rfl 1 rfl ?_
  refine rf_iload_n C dX9_findFewest_29 rfl 3 rfl ?_
  refine rf_callVv C (rmc := rmOf 1 22) [.ref ((gE Γ).2.1 (gId a1 0)), .int v7] (by decide) (mX9_findTails (gL Γ) n a1 v7 s10 ha1) mfX9_findTails mvX9_findTails mlX9_73 rfl oX9 rfl rfl rfl (Nat.le_of_ble_eq_true rfl) ⟨Nat.le_of_ble_eq_true rfl, Nat.le_of_ble_eq_true rfl⟩ dX9_findFewest_30 (fun s13 => ?_)
  refine rf_aload_n C dX9_findFewest_33 rfl 1 rfl ?_
  refine rf_iload_n C dX9_findFewest_34 rfl 3 rfl ?_
  refine rf_callVi C (rmc := rmOf 0 0) [.int v7] (by decide) (mX4_left (gL Γ) a1 v7 s13 ha1) mfX4_left mvX4_left mlX9_77 rfl (oX4 ha1) rfl rfl rfl (Nat.le_of_ble_eq_true rfl) ⟨Nat.le_of_ble_eq_true rfl, Nat.le_of_ble_eq_true rfl⟩ dX9_findFewest_35 (fun r15 s14 => ?_)
  refine rf_istore C (fun v16 => [(4, .int v16), (0, .ref ((gE Γ).2.1 7)), (1, .ref ((gE Γ).2.1 (gId a1 0))), (2, .int v3), (3, .int v7)]) dX9_findFewest_38 (by decide) (fun _ => rfl) (fun v16 => ?_)
  refine rf_aload_n C dX9_findFewest_40 rfl 1 rfl ?_
  refine rf_get C (v := .ref ((gE Γ).2.1 8)) cfX9 flX9_9 (by decide) oX9 rfl dX9_findFewest_41 ?_
  refine rf_iload C dX9_findFewest_44 0 rfl ?_
  refine rf_aload_n C dX9_findFewest_46 rfl 1 rfl ?_
  refine rf_get C (v := .ref ((gE Γ).2.1 8)) cfX9 flX9_9 (by decide) oX9 rfl dX9_findFewest_47 ?_
  refine rf_iload C dX9_findFewest_50 0 rfl ?_
  refine rf_iald C ar8 dX9_findFewest_52 (fun v17 => ?_)
  refine rf_aload_n C dX9_findFewest_53 rfl 1 rfl ?_
  refine rf_iload_n C dX9_findFewest_54 rfl 4 rfl ?_
  refine rf_iconst C (v := (nI 0)) dX9_findFewest_55 rfl ?_
  refine rf_callVi C (rmc := rmOf 0 0) [.int v7, .int (nI 0)] (by decide) (mX9_tail (gL Γ) v7 (nI 0) s14) mfX9_tail mvX9_tail mlX9_81 rfl oX9 rfl rfl rfl (Nat.le_of_ble_eq_true rfl) ⟨Nat.le_of_ble_eq_true rfl, Nat.le_of_ble_eq_true rfl⟩ dX9_findFewest_56 (fun r19 s18 => ?_)
  refine rf_mmin C mlX9_85 (Nat.le_of_ble_eq_true rfl) (Nat.le_of_ble_eq_true rfl) mthmin dX9_findFewest_59 ?_
  refine rf_iast C ar8 dX9_findFewest_62 (fun s20 => ?_)
  refine rf_iinc C (fun v21 => [(3, .int v21), (4, .int v16), (0, .ref ((gE Γ).2.1 7)), (1, .ref ((gE Γ).2.1 (gId a1 0))), (2, .int v3)]) dX9_findFewest_63 4 rfl rfl (by decide) (fun _ => rfl) (fun v21 => ?_)
  refine rf_goto C 19 dX9_findFewest_66 (by decide) ?_
  exact rf_sub [2, 3, 4, 0] rfl (hrec9 v21 s20 trivial)

def fX4_start (t : Nat) (s0 : PH) : Option (Int32 × PH) :=
(ra 16 (nI 0) (s0.1 (gId t 1)) fun (v1 : Int32) =>
(some (v1, s0)))
set_option maxRecDepth 20000 in
set_option maxHeartbeats 2000000 in
theorem mX4_start (l : Launch) (t : Nat) (s0 : PH) (ht : t < 6) : Cti 148 l yX4_start cX4_start 1 (some .int) (rmOf 0 0) (fun E => [.ref (E.2.1 (gId t 0))]) s0 (fX4_start t s0) := by
  refine Cti.of (by decide) rfl (lv := fun E => [(0, .ref (E.2.1 (gId t 0)))]) (fun _ => Nat.le_of_ble_eq_true rfl) (fun _ => rfl) (fun Γ hΓ _ C => ?_)
  subst hΓ
  unfold fX4_start
  refine rf_aload_n C dX4_start_0 rfl 0 rfl ?_
  refine rf_get C (v := .ref ((gE Γ).2.1 (gId t 1))) cfX4 flX4_9 (by decide) (oX4 ht) rfl dX4_start_1 ?_
  refine rf_iconst C (v := (nI 0)) dX4_start_4 rfl ?_
  refine rf_iald C (arG1 ht) dX4_start_5 (fun v1 => ?_)
  exact rf_iret C dX4_start_6

def fX11_bit (a1 : Int32) (a2 : Int32) (s0 : PH) : Option (Int32 × PH) :=
(some (((a1 >>> (a2 &&& 31)) &&& (nI 1)), s0))
set_option maxRecDepth 20000 in
set_option maxHeartbeats 2000000 in
theorem mX11_bit (l : Launch) (a1 : Int32) (a2 : Int32) (s0 : PH) : Cti 148 l yX11_bit cX11_bit 2 (some .int) (rmOf 0 0) (fun E => [.int a1, .int a2]) s0 (fX11_bit a1 a2 s0) := by
  refine Cti.of (by decide) rfl (lv := fun E => [(0, .int a1), (1, .int a2)]) (fun _ => Nat.le_of_ble_eq_true rfl) (fun _ => rfl) (fun Γ hΓ _ C => ?_)
  subst hΓ
  unfold fX11_bit
  refine rf_iload_n C dX11_bit_0 rfl 0 rfl ?_
  refine rf_iload_n C dX11_bit_1 rfl 1 rfl ?_
  refine rf_ishr C dX11_bit_2 ?_
  refine rf_iconst C (v := (nI 1)) dX11_bit_3 rfl ?_
  refine rf_iand C dX11_bit_4 ?_
  exact rf_iret C dX11_bit_5

def fX9_reachRight (n : Nat) (a1 : Nat) (a2 : Int32) (s0 : PH) : Option (Unit × PH) :=
(lt (nI 0) fun (v1 : Int32) =>
(loo2 (fun (recrec4 : Int32 → PH → Option (Unit × PH)) (v2 : Int32) (s3 : PH) =>
(bd (fX4_length a1 a2 s3) fun (r6 : Int32) (s5 : PH) =>
(if r6 ≤ v2 then
(some ((), s5))
else
(bd (fX4_symbolAt a1 a2 v2 s5) fun (r8 : Int32) (s7 : PH) =>
(lt r8 fun (v9 : Int32) =>
(bd (fX11_isLetter v9 s7) fun (r11 : Int32) (s10 : PH) =>
(jn (fun (s12 : PH) =>
(lt (v2 + (nI 1)) fun (v14 : Int32) =>
(recrec4 v14 s12))) (fun (j13 : PH → Option (Unit × PH)) =>
(if r11 = 0 then
(lt (si s10 7 7 ((s10.1 7 7) ||| ((nI 1) <<< ((v9 - (nI 10)) &&& 31)))) fun (s15 : PH) =>
(j13 s15))
else
(lt (si s10 7 6 ((s10.1 7 6) ||| ((nI 1) <<< (v9 &&& 31)))) fun (s16 : PH) =>
(j13 s16))))))))))) n v1 s0))
set_option maxRecDepth 20000 in
set_option maxHeartbeats 2000000 in
theorem mX9_reachRight (l : Launch) (n : Nat) (a1 : Nat) (a2 : Int32) (s0 : PH) (ha1 : a1 < 6) : Ctv 148 l yX9_reachRight cX9_reachRight 5 none (rmOf 1 22) (fun E => [.ref (E.2.1 7), .ref (E.2.1 (gId a1 0)), .int a2]) s0 (fX9_reachRight n a1 a2 s0) := by
  refine Ctv.of (by decide) rfl (lv := fun E => [(0, .ref (E.2.1 7)), (1, .ref (E.2.1 (gId a1 0))), (2, .int a2)]) (fun _ => Nat.le_of_ble_eq_true rfl) (fun _ => rfl) (fun Γ hΓ _ C => ?_)
  subst hΓ
  unfold fX9_reachRight
  refine rf_iconst C (v := (nI 0)) dX9_reachRight_0 rfl ?_
  refine rf_istore_n C (fun v1 => [(3, .int v1), (0, .ref ((gE Γ).2.1 7)), (1, .ref ((gE Γ).2.1 (gId a1 0))), (2, .int a2)]) dX9_reachRight_1 rfl (by decide) (fun _ => rfl) (fun v1 => ?_)
  refine rf_sub [1, 2, 3, 0] rfl ?_
  refine rf_loo2 (fun _ _ => True) (fun _ s3 => s3) (fun v2 s3 => [(0, .ref ((gE Γ).2.1 7)), (1, .ref ((gE Γ).2.1 (gId a1 0))), (2, .int a2), (3, .int v2)]) (fun recrec4 hrec4 v2 s3 _ => ?_) n v1 s0 trivial
  refine rf_iload_n C dX9_reachRight_2 rfl 3 rfl ?_
  refine rf_aload_n C dX9_reachRight_3 rfl 1 rfl ?_
  refine rf_iload_n C dX9_reachRight_4 rfl 2 rfl ?_
  refine rf_callVi C (rmc := rmOf 0 0) [.int a2] (by decide) (mX4_length (gL Γ) a1 a2 s3 ha1) mfX4_length mvX4_length mlX9_90 rfl (oX4 ha1) rfl rfl rfl (Nat.le_of_ble_eq_true rfl) ⟨Nat.le_of_ble_eq_true rfl, Nat.le_of_ble_eq_true rfl⟩ dX9_reachRight_5 (fun r6 s5 => ?_)
  refine rf_icmp_ge C 65 dX9_reachRight_8 (by decide) (fun _ => ?_) (fun _ => ?_)
  · exact rf_vret C dX9_reachRight_65
  refine rf_aload_n C dX9_reachRight_11 rfl 1 rfl ?_
  refine rf_iload_n C dX9_reachRight_12 rfl 2 rfl ?_
  refine rf_iload_n C dX9_reachRight_13 rfl 3 rfl ?_
  refine rf_callVi C (rmc := rmOf 0 0) [.int a2, .int v2] (by decide) (mX4_symbolAt (gL Γ) a1 a2 v2 s5 ha1) mfX4_symbolAt mvX4_symbolAt mlX9_93 rfl (oX4 ha1) rfl rfl rfl (Nat.le_of_ble_eq_true rfl) ⟨Nat.le_of_ble_eq_true rfl, Nat.le_of_ble_eq_true rfl⟩ dX9_reachRight_14 (fun r8 s7 => ?_)
  refine rf_istore C (fun v9 => [(4, .int v9), (0, .ref ((gE Γ).2.1 7)), (1, .ref ((gE Γ).2.1 (gId a1 0))), (2, .int a2), (3, .int v2)]) dX9_reachRight_17 (by decide) (fun _ => rfl) (fun v9 => ?_)
  refine rf_iload C dX9_reachRight_19 0 rfl ?_
  refine rf_callSNi C (rmc := rmOf 0 0) [.int v9] (by decide) (mX11_isLetter (gL Γ) v9 s7) mfX11_isLetter msX11_isLetter (by decide) rfl rfl rfl (Nat.le_of_ble_eq_true rfl) ⟨Nat.le_of_ble_eq_true rfl, Nat.le_of_ble_eq_true rfl⟩ dX9_reachRight_21 (fun r11 s10 => ?_)
  refine rf_jn1 (fun _ => True) (fun  s12 => s12) (fun s12 => [(0, .ref ((gE Γ).2.1 7)), (1, .ref ((gE Γ).2.1 (gId a1 0))), (2, .int a2), (3, .int v2)]) (fun s12 => []) 59 (fun s12 _ => ?_) (fun j13 hj13 => ?_)
  · refine rf_iinc C (fun v14 => [(3, .int v14), (0, .ref ((gE Γ).2.1 7)), (1, .ref ((gE Γ).2.1 (gId a1 0))), (2, .int a2)]) dX9_reachRight_59 3 rfl rfl (by decide) (fun _ => rfl) (fun v14 => ?_)
    refine rf_goto C 2 dX9_reachRight_62 (by decide) ?_
    exact rf_sub [1, 2, 3, 0] rfl (hrec4 v14 s12 trivial)
  refine rf_if_eq C 43 dX9_reachRight_24 (by decide) (fun _ => ?_) (fun _ => ?_)
  · refine rf_aload_n C dX9_reachRight_43 rfl 1 rfl ?_
    refine rf_dup C dX9_reachRight_44 rfl ?_
    refine rf_get C (v := .int (s10.1 7 7)) cfX9 flX9_34 (by decide) oX9 rfl dX9_reachRight_45 ?_
    refine rf_iconst C (v := (nI 1)) dX9_reachRight_48 rfl ?_
    refine rf_iload C dX9_reachRight_49 0 rfl ?_
    refine rf_bipush C (v := (nI 10)) dX9_reachRight_51 rfl ?_
    refine rf_isub C dX9_reachRight_53 ?_
    refine rf_ishl C dX9_reachRight_54 ?_
    refine rf_ior C dX9_reachRight_55 ?_
    refine rf_puti C cfX9 flX9_34 (by decide) rfl oX9 (fty := .int) rfl rfl rfl (fun _ _ _ _ => Nat.le_of_ble_eq_true rfl) (fun _ _ _ _ => rfl) dX9_reachRight_56 (fun s15 => ?_)
    exact rf_sub [1, 2, 3, 4] rfl (hj13 s15 trivial)
  refine rf_aload_n C dX9_reachRight_27 rfl 1 rfl ?_
  refine rf_dup C dX9_reachRight_28 rfl ?_
  refine rf_get C (v := .int (s10.1 7 6)) cfX9 flX9_31 (by decide) oX9 rfl dX9_reachRight_29 ?_
  refine rf_iconst C (v := (nI 1)) dX9_reachRight_32 rfl ?_
  refine rf_iload C dX9_reachRight_33 0 rfl ?_
  refine rf_ishl C dX9_reachRight_35 ?_
  refine rf_ior C dX9_reachRight_36 ?_
  refine rf_puti C cfX9 flX9_31 (by decide) rfl oX9 (fty := .int) rfl rfl rfl (fun _ _ _ _ => Nat.le_of_ble_eq_true rfl) (fun _ _ _ _ => rfl) dX9_reachRight_37 (fun s16 => ?_)
  refine rf_goto C 59 dX9_reachRight_40 (by decide) ?_
  exact rf_sub [1, 2, 3, 4] rfl (hj13 s16 trivial)

def fX9_findReachable (n : Nat) (a1 : Nat) (s0 : PH) : Option (Unit × PH) :=
(bd (fX4_start a1 s0) fun (r2 : Int32) (s1 : PH) =>
(lt (si s1 7 7 ((nI 1) <<< (r2 &&& 31))) fun (s3 : PH) =>
(lt (si s3 7 6 (nI 0)) fun (s4 : PH) =>
(lt (nI 0) fun (v5 : Int32) =>
(loo2 (fun (recrec8 : Int32 → PH → Option (Unit × PH)) (v6 : Int32) (s7 : PH) =>
(if (nI 6) ≤ v6 then
(some ((), s7))
else
(lt (nI 0) fun (v9 : Int32) =>
(loo2 (fun (recrec12 : Int32 → PH → Option (Unit × PH)) (v10 : Int32) (s11 : PH) =>
(bd (fX4_count a1 s11) fun (r14 : Int32) (s13 : PH) =>
(if r14 ≤ v10 then
(lt (v6 + (nI 1)) fun (v15 : Int32) =>
(recrec8 v15 s13))
else
(bd (fX4_left a1 v10 s13) fun (r17 : Int32) (s16 : PH) =>
(bd (fX11_bit (s13.1 7 7) r17 s16) fun (r19 : Int32) (s18 : PH) =>
(jn (fun (s20 : PH) =>
(lt (v10 + (nI 1)) fun (v22 : Int32) =>
(recrec12 v22 s20))) (fun (j21 : PH → Option (Unit × PH)) =>
(if r19 = (nI 1) then
(bd (fX9_reachRight n a1 v10 s18) fun _ (s23 : PH) =>
(j21 s23))
else
(j21 s18))))))))) n v9 s7)))) n v5 s4)))))
set_option maxRecDepth 20000 in
set_option maxHeartbeats 2000000 in
theorem mX9_findReachable (l : Launch) (n : Nat) (a1 : Nat) (s0 : PH) (ha1 : a1 < 6) : Ctv 148 l yX9_findReachable cX9_findReachable 4 none (rmOf 2 46) (fun E => [.ref (E.2.1 7), .ref (E.2.1 (gId a1 0))]) s0 (fX9_findReachable n a1 s0) := by
  refine Ctv.of (by decide) rfl (lv := fun E => [(0, .ref (E.2.1 7)), (1, .ref (E.2.1 (gId a1 0)))]) (fun _ => Nat.le_of_ble_eq_true rfl) (fun _ => rfl) (fun Γ hΓ _ C => ?_)
  subst hΓ
  unfold fX9_findReachable
  refine rf_aload_n C dX9_findReachable_0 rfl 0 rfl ?_
  refine rf_iconst C (v := (nI 1)) dX9_findReachable_1 rfl ?_
  refine rf_aload_n C dX9_findReachable_2 rfl 1 rfl ?_
  refine rf_callVi C (rmc := rmOf 0 0) [] (by decide) (mX4_start (gL Γ) a1 s0 ha1) mfX4_start mvX4_start mlX9_100 rfl (oX4 ha1) rfl rfl rfl (Nat.le_of_ble_eq_true rfl) ⟨Nat.le_of_ble_eq_true rfl, Nat.le_of_ble_eq_true rfl⟩ dX9_findReachable_3 (fun r2 s1 => ?_)
  refine rf_ishl C dX9_findReachable_6 ?_
  refine rf_puti C cfX9 flX9_34 (by decide) rfl oX9 (fty := .int) rfl rfl rfl (fun _ _ _ _ => Nat.le_of_ble_eq_true rfl) (fun _ _ _ _ => rfl) dX9_findReachable_7 (fun s3 => ?_)
  refine rf_aload_n C dX9_findReachable_10 rfl 0 rfl ?_
  refine rf_iconst C (v := (nI 0)) dX9_findReachable_11 rfl ?_
  refine rf_puti C cfX9 flX9_31 (by decide) rfl oX9 (fty := .int) rfl rfl rfl (fun _ _ _ _ => Nat.le_of_ble_eq_true rfl) (fun _ _ _ _ => rfl) dX9_findReachable_12 (fun s4 => ?_)
  refine rf_iconst C (v := (nI 0)) dX9_findReachable_15 rfl ?_
  refine rf_istore_n C (fun v5 => [(2, .int v5), (0, .ref ((gE Γ).2.1 7)), (1, .ref ((gE Γ).2.1 (gId a1 0)))]) dX9_findReachable_16 rfl (by decide) (fun _ => rfl) (fun v5 => ?_)
  refine rf_sub [1, 2, 0] rfl ?_
  refine rf_loo2 (fun _ _ => True) (fun _ s7 => s7) (fun v6 s7 => [(0, .ref ((gE Γ).2.1 7)), (1, .ref ((gE Γ).2.1 (gId a1 0))), (2, .int v6)]) (fun recrec8 hrec8 v6 s7 _ => ?_) n v5 s4 trivial
  refine rf_iload_n C dX9_findReachable_17 rfl 2 rfl ?_
  refine rf_bipush C (v := (nI 6)) dX9_findReachable_18 rfl ?_
  refine rf_icmp_ge C 67 dX9_findReachable_20 (by decide) (fun _ => ?_) (fun _ => ?_)
  · exact rf_vret C dX9_findReachable_67
  refine rf_iconst C (v := (nI 0)) dX9_findReachable_23 rfl ?_
  refine rf_istore_n C (fun v9 => [(3, .int v9), (0, .ref ((gE Γ).2.1 7)), (1, .ref ((gE Γ).2.1 (gId a1 0))), (2, .int v6)]) dX9_findReachable_24 rfl (by decide) (fun _ => rfl) (fun v9 => ?_)
  refine rf_sub [1, 2, 3, 0] rfl ?_
  refine rf_loo2 (fun _ _ => True) (fun _ s11 => s11) (fun v10 s11 => [(0, .ref ((gE Γ).2.1 7)), (1, .ref ((gE Γ).2.1 (gId a1 0))), (2, .int v6), (3, .int v10)]) (fun recrec12 hrec12 v10 s11 _ => ?_) n v9 s7 trivial
  refine rf_iload_n C dX9_findReachable_25 rfl 3 rfl ?_
  refine rf_aload_n C dX9_findReachable_26 rfl 1 rfl ?_
  refine rf_callVi C (rmc := rmOf 0 0) [] (by decide) (mX4_count (gL Γ) a1 s11 ha1) mfX4_count mvX4_count mlX9_67 rfl (oX4 ha1) rfl rfl rfl (Nat.le_of_ble_eq_true rfl) ⟨Nat.le_of_ble_eq_true rfl, Nat.le_of_ble_eq_true rfl⟩ dX9_findReachable_27 (fun r14 s13 => ?_)
  refine rf_icmp_ge C 61 dX9_findReachable_30 (by decide) (fun _ => ?_) (fun _ => ?_)
  · refine rf_iinc C (fun v15 => [(2, .int v15), (0, .ref ((gE Γ).2.1 7)), (1, .ref ((gE Γ).2.1 (gId a1 0))), (3, .int v10)]) dX9_findReachable_61 2 rfl rfl (by decide) (fun _ => rfl) (fun v15 => ?_)
    refine rf_goto C 17 dX9_findReachable_64 (by decide) ?_
    exact rf_sub [1, 2, 0] rfl (hrec8 v15 s13 trivial)
  refine rf_aload_n C dX9_findReachable_33 rfl 0 rfl ?_
  refine rf_get C (v := .int (s13.1 7 7)) cfX9 flX9_34 (by decide) oX9 rfl dX9_findReachable_34 ?_
  refine rf_aload_n C dX9_findReachable_37 rfl 1 rfl ?_
  refine rf_iload_n C dX9_findReachable_38 rfl 3 rfl ?_
  refine rf_callVi C (rmc := rmOf 0 0) [.int v10] (by decide) (mX4_left (gL Γ) a1 v10 s13 ha1) mfX4_left mvX4_left mlX9_77 rfl (oX4 ha1) rfl rfl rfl (Nat.le_of_ble_eq_true rfl) ⟨Nat.le_of_ble_eq_true rfl, Nat.le_of_ble_eq_true rfl⟩ dX9_findReachable_39 (fun r17 s16 => ?_)
  refine rf_callSNi C (rmc := rmOf 0 0) [.int (s13.1 7 7), .int r17] (by decide) (mX11_bit (gL Γ) (s13.1 7 7) r17 s16) mfX11_bit msX11_bit (by decide) rfl rfl rfl (Nat.le_of_ble_eq_true rfl) ⟨Nat.le_of_ble_eq_true rfl, Nat.le_of_ble_eq_true rfl⟩ dX9_findReachable_42 (fun r19 s18 => ?_)
  refine rf_iconst C (v := (nI 1)) dX9_findReachable_45 rfl ?_
  refine rf_jn1 (fun _ => True) (fun  s20 => s20) (fun s20 => [(0, .ref ((gE Γ).2.1 7)), (1, .ref ((gE Γ).2.1 (gId a1 0))), (2, .int v6), (3, .int v10)]) (fun s20 => []) 55 (fun s20 _ => ?_) (fun j21 hj21 => ?_)
  · refine rf_iinc C (fun v22 => [(3, .int v22), (0, .ref ((gE Γ).2.1 7)), (1, .ref ((gE Γ).2.1 (gId a1 0))), (2, .int v6)]) dX9_findReachable_55 3 rfl rfl (by decide) (fun _ => rfl) (fun v22 => ?_)
    refine rf_goto C 25 dX9_findReachable_58 (by decide) ?_
    exact rf_sub [1, 2, 3, 0] rfl (hrec12 v22 s20 trivial)
  refine rf_icmp_ne C 55 dX9_findReachable_46 (by decide) (fun _ => ?_) (fun _ => ?_)
  · exact rf_sub [0, 1, 2, 3] rfl (hj21 s18 trivial)
  refine rf_aload_n C dX9_findReachable_49 rfl 0 rfl ?_
  refine rf_aload_n C dX9_findReachable_50 rfl 1 rfl ?_
  refine rf_iload_n C dX9_findReachable_51 rfl 3 rfl ?_
  refine rf_callVv C (rmc := rmOf 1 22) [.ref ((gE Γ).2.1 (gId a1 0)), .int v10] (by decide) (mX9_reachRight (gL Γ) n a1 v10 s18 ha1) mfX9_reachRight mvX9_reachRight mlX9_106 rfl oX9 rfl rfl rfl (Nat.le_of_ble_eq_true rfl) ⟨Nat.le_of_ble_eq_true rfl, Nat.le_of_ble_eq_true rfl⟩ dX9_findReachable_52 (fun s23 => ?_)
  exact rf_sub [0, 1, 2, 3] rfl (hj21 s23 trivial)

def fX9_relateRight (n : Nat) (a1 : Nat) (a2 : Int32) (s0 : PH) : Option (Unit × PH) :=
(bd (fX4_left a1 a2 s0) fun (r2 : Int32) (s1 : PH) =>
(lt r2 fun (v3 : Int32) =>
(lt (nI 0) fun (v4 : Int32) =>
(loo2 (fun (recrec7 : Int32 → PH → Option (Unit × PH)) (v5 : Int32) (s6 : PH) =>
(bd (fX4_length a1 a2 s6) fun (r9 : Int32) (s8 : PH) =>
(if r9 ≤ v5 then
(some ((), s8))
else
(bd (fX4_symbolAt a1 a2 v5 s8) fun (r11 : Int32) (s10 : PH) =>
(lt r11 fun (v12 : Int32) =>
(bd (fX11_isLetter v12 s10) fun (r14 : Int32) (s13 : PH) =>
(if r14 = 0 then
(lt (v12 - (nI 10)) fun (v15 : Int32) =>
(ra 6 v3 (s13.1 10) fun (v16 : Int32) =>
(wa 6 v3 (lt (si s13 10 v3.toNatClampNeg (v16 ||| ((nI 1) <<< (v15 &&& 31)))) fun (s17 : PH) =>
(bd (fX9_tail a2 (v5 + (nI 1)) s17) fun (r19 : Int32) (s18 : PH) =>
(jn (fun (s20 : PH) =>
(ra 6 v15 (s20.1 8) fun (v22 : Int32) =>
(if v22 = 0 then
(lt (v5 + (nI 1)) fun (v23 : Int32) =>
(recrec7 v23 s20))
else
(some ((), s20))))) (fun (j21 : PH → Option (Unit × PH)) =>
(if r19 = 0 then
(ra 6 v3 (s18.1 11) fun (v24 : Int32) =>
(wa 6 v3 (lt (si s18 11 v3.toNatClampNeg (v24 ||| ((nI 1) <<< (v15 &&& 31)))) fun (s25 : PH) =>
(j21 s25))))
else
(j21 s18)))))))))
else
(some ((), s13))))))))) n v4 s1))))
set_option maxRecDepth 20000 in
set_option maxHeartbeats 2000000 in
theorem mX9_relateRight (l : Launch) (n : Nat) (a1 : Nat) (a2 : Int32) (s0 : PH) (ha1 : a1 < 6) : Ctv 148 l yX9_relateRight cX9_relateRight 7 none (rmOf 1 22) (fun E => [.ref (E.2.1 7), .ref (E.2.1 (gId a1 0)), .int a2]) s0 (fX9_relateRight n a1 a2 s0) := by
  refine Ctv.of (by decide) rfl (lv := fun E => [(0, .ref (E.2.1 7)), (1, .ref (E.2.1 (gId a1 0))), (2, .int a2)]) (fun _ => Nat.le_of_ble_eq_true rfl) (fun _ => rfl) (fun Γ hΓ _ C => ?_)
  subst hΓ
  unfold fX9_relateRight
  refine rf_aload_n C dX9_relateRight_0 rfl 1 rfl ?_
  refine rf_iload_n C dX9_relateRight_1 rfl 2 rfl ?_
  refine rf_callVi C (rmc := rmOf 0 0) [.int a2] (by decide) (mX4_left (gL Γ) a1 a2 s0 ha1) mfX4_left mvX4_left mlX9_77 rfl (oX4 ha1) rfl rfl rfl (Nat.le_of_ble_eq_true rfl) ⟨Nat.le_of_ble_eq_true rfl, Nat.le_of_ble_eq_true rfl⟩ dX9_relateRight_2 (fun r2 s1 => ?_)
  refine rf_istore_n C (fun v3 => [(3, .int v3), (0, .ref ((gE Γ).2.1 7)), (1, .ref ((gE Γ).2.1 (gId a1 0))), (2, .int a2)]) dX9_relateRight_5 rfl (by decide) (fun _ => rfl) (fun v3 => ?_)
  refine rf_iconst C (v := (nI 0)) dX9_relateRight_6 rfl ?_
  refine rf_istore C (fun v4 => [(4, .int v4), (3, .int v3), (0, .ref ((gE Γ).2.1 7)), (1, .ref ((gE Γ).2.1 (gId a1 0))), (2, .int a2)]) dX9_relateRight_7 (by decide) (fun _ => rfl) (fun v4 => ?_)
  refine rf_sub [2, 3, 4, 1, 0] rfl ?_
  refine rf_loo2 (fun _ _ => True) (fun _ s6 => s6) (fun v5 s6 => [(0, .ref ((gE Γ).2.1 7)), (1, .ref ((gE Γ).2.1 (gId a1 0))), (2, .int a2), (3, .int v3), (4, .int v5)]) (fun recrec7 hrec7 v5 s6 _ => ?_) n v4 s1 trivial
  refine rf_iload C dX9_relateRight_9 4 rfl ?_
  refine rf_aload_n C dX9_relateRight_11 rfl 1 rfl ?_
  refine rf_iload_n C dX9_relateRight_12 rfl 2 rfl ?_
  refine rf_callVi C (rmc := rmOf 0 0) [.int a2] (by decide) (mX4_length (gL Γ) a1 a2 s6 ha1) mfX4_length mvX4_length mlX9_90 rfl (oX4 ha1) rfl rfl rfl (Nat.le_of_ble_eq_true rfl) ⟨Nat.le_of_ble_eq_true rfl, Nat.le_of_ble_eq_true rfl⟩ dX9_relateRight_13 (fun r9 s8 => ?_)
  refine rf_icmp_ge C 99 dX9_relateRight_16 (by decide) (fun _ => ?_) (fun _ => ?_)
  · exact rf_vret C dX9_relateRight_99
  refine rf_aload_n C dX9_relateRight_19 rfl 1 rfl ?_
  refine rf_iload_n C dX9_relateRight_20 rfl 2 rfl ?_
  refine rf_iload C dX9_relateRight_21 4 rfl ?_
  refine rf_callVi C (rmc := rmOf 0 0) [.int a2, .int v5] (by decide) (mX4_symbolAt (gL Γ) a1 a2 v5 s8 ha1) mfX4_symbolAt mvX4_symbolAt mlX9_93 rfl (oX4 ha1) rfl rfl rfl (Nat.le_of_ble_eq_true rfl) ⟨Nat.le_of_ble_eq_true rfl, Nat.le_of_ble_eq_true rfl⟩ dX9_relateRight_23 (fun r11 s10 => ?_)
  refine rf_istore C (fun v12 => [(5, .int v12), (0, .ref ((gE Γ).2.1 7)), (1, .ref ((gE Γ).2.1 (gId a1 0))), (2, .int a2), (3, .int v3), (4, .int v5)]) dX9_relateRight_26 (by decide) (fun _ => rfl) (fun v12 => ?_)
  refine rf_iload C dX9_relateRight_28 0 rfl ?_
  refine rf_callSNi C (rmc := rmOf 0 0) [.int v12] (by decide) (mX11_isLetter (gL Γ) v12 s10) mfX11_isLetter msX11_isLetter (by decide) rfl rfl rfl (Nat.le_of_ble_eq_true rfl) ⟨Nat.le_of_ble_eq_true rfl, Nat.le_of_ble_eq_true rfl⟩ dX9_relateRight_30 (fun r14 s13 => ?_)
  refine rf_if_eq C 37 dX9_relateRight_33 (by decide) (fun _ => ?_) (fun _ => ?_)
  · refine rf_iload C dX9_relateRight_37 0 rfl ?_
    refine rf_bipush C (v := (nI 10)) dX9_relateRight_39 rfl ?_
    refine rf_isub C dX9_relateRight_41 ?_
    refine rf_istore C (fun v15 => [(6, .int v15), (5, .int v12), (0, .ref ((gE Γ).2.1 7)), (1, .ref ((gE Γ).2.1 (gId a1 0))), (2, .int a2), (3, .int v3), (4, .int v5)]) dX9_relateRight_42 (by decide) (fun _ => rfl) (fun v15 => ?_)
    refine rf_aload_n C dX9_relateRight_44 rfl 2 rfl ?_
    refine rf_get C (v := .ref ((gE Γ).2.1 10)) cfX9 flX9_18 (by decide) oX9 rfl dX9_relateRight_45 ?_
    refine rf_iload_n C dX9_relateRight_48 rfl 5 rfl ?_
    refine rf_dup2 C dX9_relateRight_49 rfl rfl ?_
    refine rf_iald C ar10 dX9_relateRight_50 (fun v16 => ?_)
    refine rf_iconst C (v := (nI 1)) dX9_relateRight_51 rfl ?_
    refine rf_iload C dX9_relateRight_52 0 rfl ?_
    refine rf_ishl C dX9_relateRight_54 ?_
    refine rf_ior C dX9_relateRight_55 ?_
    refine rf_iast C ar10 dX9_relateRight_56 (fun s17 => ?_)
    refine rf_aload_n C dX9_relateRight_57 rfl 2 rfl ?_
    refine rf_iload_n C dX9_relateRight_58 rfl 4 rfl ?_
    refine rf_iload C dX9_relateRight_59 6 rfl ?_
    refine rf_iconst C (v := (nI 1)) dX9_relateRight_61 rfl ?_
    refine rf_iadd C dX9_relateRight_62 ?_
    refine rf_callVi C (rmc := rmOf 0 0) [.int a2, .int (v5 + (nI 1))] (by decide) (mX9_tail (gL Γ) a2 (v5 + (nI 1)) s17) mfX9_tail mvX9_tail mlX9_81 rfl oX9 rfl rfl rfl (Nat.le_of_ble_eq_true rfl) ⟨Nat.le_of_ble_eq_true rfl, Nat.le_of_ble_eq_true rfl⟩ dX9_relateRight_63 (fun r19 s18 => ?_)
    refine rf_jn1 (fun _ => True) (fun  s20 => s20) (fun s20 => [(0, .ref ((gE Γ).2.1 7)), (1, .ref ((gE Γ).2.1 (gId a1 0))), (2, .int a2), (3, .int v3), (4, .int v5), (6, .int v15)]) (fun s20 => []) 82 (fun s20 _ => ?_) (fun j21 hj21 => ?_)
    · refine rf_aload_n C dX9_relateRight_82 rfl 0 rfl ?_
      refine rf_get C (v := .ref ((gE Γ).2.1 8)) cfX9 flX9_9 (by decide) oX9 rfl dX9_relateRight_83 ?_
      refine rf_iload C dX9_relateRight_86 5 rfl ?_
      refine rf_iald C ar8 dX9_relateRight_88 (fun v22 => ?_)
      refine rf_if_eq C 93 dX9_relateRight_89 (by decide) (fun _ => ?_) (fun _ => ?_)
      · refine rf_iinc C (fun v23 => [(4, .int v23), (0, .ref ((gE Γ).2.1 7)), (1, .ref ((gE Γ).2.1 (gId a1 0))), (2, .int a2), (3, .int v3), (6, .int v15)]) dX9_relateRight_93 4 rfl rfl (by decide) (fun _ => rfl) (fun v23 => ?_)
        refine rf_goto C 9 dX9_relateRight_96 (by decide) ?_
        exact rf_sub [1, 2, 3, 4, 0] rfl (hrec7 v23 s20 trivial)
      exact rf_vret C dX9_relateRight_92
    refine rf_if_ne C 82 dX9_relateRight_66 (by decide) (fun _ => ?_) (fun _ => ?_)
    · exact rf_sub [2, 3, 4, 5, 6, 0] rfl (hj21 s18 trivial)
    refine rf_aload_n C dX9_relateRight_69 rfl 2 rfl ?_
    refine rf_get C (v := .ref ((gE Γ).2.1 11)) cfX9 flX9_21 (by decide) oX9 rfl dX9_relateRight_70 ?_
    refine rf_iload_n C dX9_relateRight_73 rfl 5 rfl ?_
    refine rf_dup2 C dX9_relateRight_74 rfl rfl ?_
    refine rf_iald C ar11 dX9_relateRight_75 (fun v24 => ?_)
    refine rf_iconst C (v := (nI 1)) dX9_relateRight_76 rfl ?_
    refine rf_iload C dX9_relateRight_77 0 rfl ?_
    refine rf_ishl C dX9_relateRight_79 ?_
    refine rf_ior C dX9_relateRight_80 ?_
    refine rf_iast C ar11 dX9_relateRight_81 (fun s25 => ?_)
    exact rf_sub [2, 3, 4, 5, 6, 0] rfl (hj21 s25 trivial)
  exact rf_vret C dX9_relateRight_36

def fX9_findRelations (n : Nat) (a1 : Nat) (s0 : PH) : Option (Unit × PH) :=
(bd (fJ7_fill_53178 n 10 6 (nI 0) s0) fun _ (s1 : PH) =>
(bd (fJ7_fill_53178 n 11 6 (nI 0) s1) fun _ (s2 : PH) =>
(lt (nI 0) fun (v3 : Int32) =>
(loo2 (fun (recrec6 : Int32 → PH → Option (Unit × PH)) (v4 : Int32) (s5 : PH) =>
(bd (fX4_count a1 s5) fun (r8 : Int32) (s7 : PH) =>
(if r8 ≤ v4 then
(some ((), s7))
else
(bd (fX9_relateRight n a1 v4 s7) fun _ (s9 : PH) =>
(lt (v4 + (nI 1)) fun (v10 : Int32) =>
(recrec6 v10 s9)))))) n v3 s2))))
set_option maxRecDepth 20000 in
set_option maxHeartbeats 2000000 in
theorem mX9_findRelations (l : Launch) (n : Nat) (a1 : Nat) (s0 : PH) (ha1 : a1 < 6) : Ctv 148 l yX9_findRelations cX9_findRelations 3 none (rmOf 2 48) (fun E => [.ref (E.2.1 7), .ref (E.2.1 (gId a1 0))]) s0 (fX9_findRelations n a1 s0) := by
  refine Ctv.of (by decide) rfl (lv := fun E => [(0, .ref (E.2.1 7)), (1, .ref (E.2.1 (gId a1 0)))]) (fun _ => Nat.le_of_ble_eq_true rfl) (fun _ => rfl) (fun Γ hΓ _ C => ?_)
  subst hΓ
  unfold fX9_findRelations
  refine rf_aload_n C dX9_findRelations_0 rfl 0 rfl ?_
  refine rf_get C (v := .ref ((gE Γ).2.1 10)) cfX9 flX9_18 (by decide) oX9 rfl dX9_findRelations_1 ?_
  refine rf_iconst C (v := (nI 0)) dX9_findRelations_4 rfl ?_
  refine rf_callSv C (rmc := rmOf 0 0) [.ref ((gE Γ).2.1 10), .int (nI 0)] (by decide) (mJ7_fill_53178 (gL Γ) n 10 6 (nI 0) s0 ar10) mfJ7_fill_53178 msJ7_fill_53178 mlX9_61 rfl rfl rfl (Nat.le_of_ble_eq_true rfl) ⟨Nat.le_of_ble_eq_true rfl, Nat.le_of_ble_eq_true rfl⟩ dX9_findRelations_5 (fun s1 => ?_)
  refine rf_aload_n C dX9_findRelations_8 rfl 0 rfl ?_
  refine rf_get C (v := .ref ((gE Γ).2.1 11)) cfX9 flX9_21 (by decide) oX9 rfl dX9_findRelations_9 ?_
  refine rf_iconst C (v := (nI 0)) dX9_findRelations_12 rfl ?_
  refine rf_callSv C (rmc := rmOf 0 0) [.ref ((gE Γ).2.1 11), .int (nI 0)] (by decide) (mJ7_fill_53178 (gL Γ) n 11 6 (nI 0) s1 ar11) mfJ7_fill_53178 msJ7_fill_53178 mlX9_61 rfl rfl rfl (Nat.le_of_ble_eq_true rfl) ⟨Nat.le_of_ble_eq_true rfl, Nat.le_of_ble_eq_true rfl⟩ dX9_findRelations_13 (fun s2 => ?_)
  refine rf_iconst C (v := (nI 0)) dX9_findRelations_16 rfl ?_
  refine rf_istore_n C (fun v3 => [(2, .int v3), (0, .ref ((gE Γ).2.1 7)), (1, .ref ((gE Γ).2.1 (gId a1 0)))]) dX9_findRelations_17 rfl (by decide) (fun _ => rfl) (fun v3 => ?_)
  refine rf_sub [1, 2, 0] rfl ?_
  refine rf_loo2 (fun _ _ => True) (fun _ s5 => s5) (fun v4 s5 => [(0, .ref ((gE Γ).2.1 7)), (1, .ref ((gE Γ).2.1 (gId a1 0))), (2, .int v4)]) (fun recrec6 hrec6 v4 s5 _ => ?_) n v3 s2 trivial
  refine rf_iload_n C dX9_findRelations_18 rfl 2 rfl ?_
  refine rf_aload_n C dX9_findRelations_19 rfl 1 rfl ?_
  refine rf_callVi C (rmc := rmOf 0 0) [] (by decide) (mX4_count (gL Γ) a1 s5 ha1) mfX4_count mvX4_count mlX9_67 rfl (oX4 ha1) rfl rfl rfl (Nat.le_of_ble_eq_true rfl) ⟨Nat.le_of_ble_eq_true rfl, Nat.le_of_ble_eq_true rfl⟩ dX9_findRelations_20 (fun r8 s7 => ?_)
  refine rf_icmp_ge C 38 dX9_findRelations_23 (by decide) (fun _ => ?_) (fun _ => ?_)
  · exact rf_vret C dX9_findRelations_38
  refine rf_aload_n C dX9_findRelations_26 rfl 0 rfl ?_
  refine rf_aload_n C dX9_findRelations_27 rfl 1 rfl ?_
  refine rf_iload_n C dX9_findRelations_28 rfl 2 rfl ?_
  refine rf_callVv C (rmc := rmOf 1 22) [.ref ((gE Γ).2.1 (gId a1 0)), .int v4] (by decide) (mX9_relateRight (gL Γ) n a1 v4 s7 ha1) mfX9_relateRight mvX9_relateRight mlX9_109 rfl oX9 rfl rfl rfl (Nat.le_of_ble_eq_true rfl) ⟨Nat.le_of_ble_eq_true rfl, Nat.le_of_ble_eq_true rfl⟩ dX9_findRelations_29 (fun s9 => ?_)
  refine rf_iinc C (fun v10 => [(2, .int v10), (0, .ref ((gE Γ).2.1 7)), (1, .ref ((gE Γ).2.1 (gId a1 0)))]) dX9_findRelations_32 2 rfl rfl (by decide) (fun _ => rfl) (fun v10 => ?_)
  refine rf_goto C 18 dX9_findRelations_35 (by decide) ?_
  exact rf_sub [1, 2, 0] rfl (hrec6 v10 s9 trivial)

def fX9_findLoops (n : Nat) (a1 a1n : Nat) (s0 : PH) : Option (Int32 × PH) :=
(lt (nI 0) fun (v1 : Int32) =>
(loo2 (fun (recrec4 : Int32 → PH → Option (Int32 × PH)) (v2 : Int32) (s3 : PH) =>
(if (nI 6) ≤ v2 then
(lt (nI 0) fun (v5 : Int32) =>
(lt (nI 0) fun (v6 : Int32) =>
(loo3 (fun (recrec10 : Int32 → Int32 → PH → Option (Int32 × PH)) (v7 : Int32) (v8 : Int32) (s9 : PH) =>
(if (nI 6) ≤ v8 then
(some (v7, s9))
else
(ra a1n v8 (s9.1 a1) fun (v11 : Int32) =>
(lt (v7 ||| (v11 &&& ((nI 1) <<< (v8 &&& 31)))) fun (v12 : Int32) =>
(lt (v8 + (nI 1)) fun (v13 : Int32) =>
(recrec10 v12 v13 s9)))))) n v5 v6 s3)))
else
(lt (nI 0) fun (v14 : Int32) =>
(loo2 (fun (recrec17 : Int32 → PH → Option (Int32 × PH)) (v15 : Int32) (s16 : PH) =>
(if (nI 6) ≤ v15 then
(lt (v2 + (nI 1)) fun (v18 : Int32) =>
(recrec4 v18 s16))
else
(ra a1n v15 (s16.1 a1) fun (v19 : Int32) =>
(bd (fX11_bit v19 v2 s16) fun (r21 : Int32) (s20 : PH) =>
(jn (fun (s22 : PH) =>
(lt (v15 + (nI 1)) fun (v24 : Int32) =>
(recrec17 v24 s22))) (fun (j23 : PH → Option (Int32 × PH)) =>
(if r21 = (nI 1) then
(ra a1n v15 (s20.1 a1) fun (v25 : Int32) =>
(ra a1n v2 (s20.1 a1) fun (v26 : Int32) =>
(wa a1n v15 (lt (si s20 a1 v15.toNatClampNeg (v25 ||| v26)) fun (s27 : PH) =>
(j23 s27)))))
else
(j23 s20)))))))) n v14 s3)))) n v1 s0))
set_option maxRecDepth 20000 in
set_option maxHeartbeats 2000000 in
theorem mX9_findLoops (l : Launch) (n : Nat) (a1 a1n : Nat) (s0 : PH) (ha1 : isI 148 a1 a1n) : Cti 148 l yX9_findLoops cX9_findLoops 3 (some .int) (rmOf 1 21) (fun E => [.ref (E.2.1 a1)]) s0 (fX9_findLoops n a1 a1n s0) := by
  refine Cti.of (by decide) rfl (lv := fun E => [(0, .ref (E.2.1 a1))]) (fun _ => Nat.le_of_ble_eq_true rfl) (fun _ => rfl) (fun Γ hΓ _ C => ?_)
  subst hΓ
  unfold fX9_findLoops
  refine rf_iconst C (v := (nI 0)) dX9_findLoops_0 rfl ?_
  refine rf_istore_n C (fun v1 => [(1, .int v1), (0, .ref ((gE Γ).2.1 a1))]) dX9_findLoops_1 rfl (by decide) (fun _ => rfl) (fun v1 => ?_)
  refine rf_sub [1, 0] rfl ?_
  refine rf_loo2 (fun _ _ => True) (fun _ s3 => s3) (fun v2 s3 => [(0, .ref ((gE Γ).2.1 a1)), (1, .int v2)]) (fun recrec4 hrec4 v2 s3 _ => ?_) n v1 s0 trivial
  refine rf_iload_n C dX9_findLoops_2 rfl 1 rfl ?_
  refine rf_bipush C (v := (nI 6)) dX9_findLoops_3 rfl ?_
  refine rf_icmp_ge C 48 dX9_findLoops_5 (by decide) (fun _ => ?_) (fun _ => ?_)
  · refine rf_iconst C (v := (nI 0)) dX9_findLoops_48 rfl ?_
    refine rf_istore_n C (fun v5 => [(1, .int v5), (0, .ref ((gE Γ).2.1 a1))]) dX9_findLoops_49 rfl (by decide) (fun _ => rfl) (fun v5 => ?_)
    refine rf_iconst C (v := (nI 0)) dX9_findLoops_50 rfl ?_
    refine rf_istore_n C (fun v6 => [(2, .int v6), (1, .int v5), (0, .ref ((gE Γ).2.1 a1))]) dX9_findLoops_51 rfl (by decide) (fun _ => rfl) (fun v6 => ?_)
    refine rf_sub [2, 1, 0] rfl ?_
    refine rf_loo3 (fun _ _ _ => True) (fun _ _ s9 => s9) (fun v7 v8 s9 => [(0, .ref ((gE Γ).2.1 a1)), (1, .int v7), (2, .int v8)]) (fun recrec10 hrec10 v7 v8 s9 _ => ?_) n v5 v6 s3 trivial
    refine rf_iload_n C dX9_findLoops_52 rfl 2 rfl ?_
    refine rf_bipush C (v := (nI 6)) dX9_findLoops_53 rfl ?_
    refine rf_icmp_ge C 74 dX9_findLoops_55 (by decide) (fun _ => ?_) (fun _ => ?_)
    · refine rf_iload_n C dX9_findLoops_74 rfl 1 rfl ?_
      exact rf_iret C dX9_findLoops_75
    refine rf_iload_n C dX9_findLoops_58 rfl 1 rfl ?_
    refine rf_aload_n C dX9_findLoops_59 rfl 0 rfl ?_
    refine rf_iload_n C dX9_findLoops_60 rfl 2 rfl ?_
    refine rf_iald C ha1 dX9_findLoops_61 (fun v11 => ?_)
    refine rf_iconst C (v := (nI 1)) dX9_findLoops_62 rfl ?_
    refine rf_iload_n C dX9_findLoops_63 rfl 2 rfl ?_
    refine rf_ishl C dX9_findLoops_64 ?_
    refine rf_iand C dX9_findLoops_65 ?_
    refine rf_ior C dX9_findLoops_66 ?_
    refine rf_istore_n C (fun v12 => [(1, .int v12), (0, .ref ((gE Γ).2.1 a1)), (2, .int v8)]) dX9_findLoops_67 rfl (by decide) (fun _ => rfl) (fun v12 => ?_)
    refine rf_iinc C (fun v13 => [(2, .int v13), (1, .int v12), (0, .ref ((gE Γ).2.1 a1))]) dX9_findLoops_68 2 rfl rfl (by decide) (fun _ => rfl) (fun v13 => ?_)
    refine rf_goto C 52 dX9_findLoops_71 (by decide) ?_
    exact rf_sub [2, 1, 0] rfl (hrec10 v12 v13 s9 trivial)
  refine rf_iconst C (v := (nI 0)) dX9_findLoops_8 rfl ?_
  refine rf_istore_n C (fun v14 => [(2, .int v14), (0, .ref ((gE Γ).2.1 a1)), (1, .int v2)]) dX9_findLoops_9 rfl (by decide) (fun _ => rfl) (fun v14 => ?_)
  refine rf_sub [1, 2, 0] rfl ?_
  refine rf_loo2 (fun _ _ => True) (fun _ s16 => s16) (fun v15 s16 => [(0, .ref ((gE Γ).2.1 a1)), (1, .int v2), (2, .int v15)]) (fun recrec17 hrec17 v15 s16 _ => ?_) n v14 s3 trivial
  refine rf_iload_n C dX9_findLoops_10 rfl 2 rfl ?_
  refine rf_bipush C (v := (nI 6)) dX9_findLoops_11 rfl ?_
  refine rf_icmp_ge C 42 dX9_findLoops_13 (by decide) (fun _ => ?_) (fun _ => ?_)
  · refine rf_iinc C (fun v18 => [(1, .int v18), (0, .ref ((gE Γ).2.1 a1)), (2, .int v15)]) dX9_findLoops_42 1 rfl rfl (by decide) (fun _ => rfl) (fun v18 => ?_)
    refine rf_goto C 2 dX9_findLoops_45 (by decide) ?_
    exact rf_sub [1, 0] rfl (hrec4 v18 s16 trivial)
  refine rf_aload_n C dX9_findLoops_16 rfl 0 rfl ?_
  refine rf_iload_n C dX9_findLoops_17 rfl 2 rfl ?_
  refine rf_iald C ha1 dX9_findLoops_18 (fun v19 => ?_)
  refine rf_iload_n C dX9_findLoops_19 rfl 1 rfl ?_
  refine rf_callSNi C (rmc := rmOf 0 0) [.int v19, .int v2] (by decide) (mX11_bit (gL Γ) v19 v2 s16) mfX11_bit msX11_bit (by decide) rfl rfl rfl (Nat.le_of_ble_eq_true rfl) ⟨Nat.le_of_ble_eq_true rfl, Nat.le_of_ble_eq_true rfl⟩ dX9_findLoops_20 (fun r21 s20 => ?_)
  refine rf_iconst C (v := (nI 1)) dX9_findLoops_23 rfl ?_
  refine rf_jn1 (fun _ => True) (fun  s22 => s22) (fun s22 => [(0, .ref ((gE Γ).2.1 a1)), (1, .int v2), (2, .int v15)]) (fun s22 => []) 36 (fun s22 _ => ?_) (fun j23 hj23 => ?_)
  · refine rf_iinc C (fun v24 => [(2, .int v24), (0, .ref ((gE Γ).2.1 a1)), (1, .int v2)]) dX9_findLoops_36 2 rfl rfl (by decide) (fun _ => rfl) (fun v24 => ?_)
    refine rf_goto C 10 dX9_findLoops_39 (by decide) ?_
    exact rf_sub [1, 2, 0] rfl (hrec17 v24 s22 trivial)
  refine rf_icmp_ne C 36 dX9_findLoops_24 (by decide) (fun _ => ?_) (fun _ => ?_)
  · exact rf_sub [0, 1, 2] rfl (hj23 s20 trivial)
  refine rf_aload_n C dX9_findLoops_27 rfl 0 rfl ?_
  refine rf_iload_n C dX9_findLoops_28 rfl 2 rfl ?_
  refine rf_dup2 C dX9_findLoops_29 rfl rfl ?_
  refine rf_iald C ha1 dX9_findLoops_30 (fun v25 => ?_)
  refine rf_aload_n C dX9_findLoops_31 rfl 0 rfl ?_
  refine rf_iload_n C dX9_findLoops_32 rfl 1 rfl ?_
  refine rf_iald C ha1 dX9_findLoops_33 (fun v26 => ?_)
  refine rf_ior C dX9_findLoops_34 ?_
  refine rf_iast C ha1 dX9_findLoops_35 (fun s27 => ?_)
  exact rf_sub [0, 1, 2] rfl (hj23 s27 trivial)

def fJ6_bitCount_0f7a4 (a1 : Int32) (s0 : PH) : Option (Int32 × PH) :=
(lt (a1 - ((a1.toUInt32 >>> ((nI 1).toUInt32 &&& Int32.toUInt32 31)).toInt32 &&& (nI 1431655765))) fun (v1 : Int32) =>
(lt ((v1 &&& (nI 858993459)) + ((v1.toUInt32 >>> ((nI 2).toUInt32 &&& Int32.toUInt32 31)).toInt32 &&& (nI 858993459))) fun (v2 : Int32) =>
(lt ((v2 + (v2.toUInt32 >>> ((nI 4).toUInt32 &&& Int32.toUInt32 31)).toInt32) &&& (nI 252645135)) fun (v3 : Int32) =>
(lt (v3 + (v3.toUInt32 >>> ((nI 8).toUInt32 &&& Int32.toUInt32 31)).toInt32) fun (v4 : Int32) =>
(lt (v4 + (v4.toUInt32 >>> ((nI 16).toUInt32 &&& Int32.toUInt32 31)).toInt32) fun (v5 : Int32) =>
(some ((v5 &&& (nI 63)), s0)))))))
set_option maxRecDepth 20000 in
set_option maxHeartbeats 2000000 in
theorem mJ6_bitCount_0f7a4 (l : Launch) (a1 : Int32) (s0 : PH) : Cti 148 l yJ6_bitCount_0f7a4 cJ6_bitCount_0f7a4 1 (some .int) (rmOf 0 0) (fun E => [.int a1]) s0 (fJ6_bitCount_0f7a4 a1 s0) := by
  refine Cti.of (by decide) rfl (lv := fun E => [(0, .int a1)]) (fun _ => Nat.le_of_ble_eq_true rfl) (fun _ => rfl) (fun Γ hΓ _ C => ?_)
  subst hΓ
  unfold fJ6_bitCount_0f7a4
  refine rf_iload_n C dJ6_bitCount_0f7a4_0 rfl 0 rfl ?_
  refine rf_iload_n C dJ6_bitCount_0f7a4_1 rfl 0 rfl ?_
  refine rf_iconst C (v := (nI 1)) dJ6_bitCount_0f7a4_2 rfl ?_
  refine rf_iushr C dJ6_bitCount_0f7a4_3 ?_
  refine rf_ldcw C dJ6_bitCount_0f7a4_4 kiJ6_265 ?_
  refine rf_iand C dJ6_bitCount_0f7a4_7 ?_
  refine rf_isub C dJ6_bitCount_0f7a4_8 ?_
  refine rf_istore_n C (fun v1 => [(0, .int v1)]) dJ6_bitCount_0f7a4_9 rfl (by decide) (fun _ => rfl) (fun v1 => ?_)
  refine rf_iload_n C dJ6_bitCount_0f7a4_10 rfl 0 rfl ?_
  refine rf_ldcw C dJ6_bitCount_0f7a4_11 kiJ6_266 ?_
  refine rf_iand C dJ6_bitCount_0f7a4_14 ?_
  refine rf_iload_n C dJ6_bitCount_0f7a4_15 rfl 0 rfl ?_
  refine rf_iconst C (v := (nI 2)) dJ6_bitCount_0f7a4_16 rfl ?_
  refine rf_iushr C dJ6_bitCount_0f7a4_17 ?_
  refine rf_ldcw C dJ6_bitCount_0f7a4_18 kiJ6_266 ?_
  refine rf_iand C dJ6_bitCount_0f7a4_21 ?_
  refine rf_iadd C dJ6_bitCount_0f7a4_22 ?_
  refine rf_istore_n C (fun v2 => [(0, .int v2)]) dJ6_bitCount_0f7a4_23 rfl (by decide) (fun _ => rfl) (fun v2 => ?_)
  refine rf_iload_n C dJ6_bitCount_0f7a4_24 rfl 0 rfl ?_
  refine rf_iload_n C dJ6_bitCount_0f7a4_25 rfl 0 rfl ?_
  refine rf_iconst C (v := (nI 4)) dJ6_bitCount_0f7a4_26 rfl ?_
  refine rf_iushr C dJ6_bitCount_0f7a4_27 ?_
  refine rf_iadd C dJ6_bitCount_0f7a4_28 ?_
  refine rf_ldcw C dJ6_bitCount_0f7a4_29 kiJ6_267 ?_
  refine rf_iand C dJ6_bitCount_0f7a4_32 ?_
  refine rf_istore_n C (fun v3 => [(0, .int v3)]) dJ6_bitCount_0f7a4_33 rfl (by decide) (fun _ => rfl) (fun v3 => ?_)
  refine rf_iload_n C dJ6_bitCount_0f7a4_34 rfl 0 rfl ?_
  refine rf_iload_n C dJ6_bitCount_0f7a4_35 rfl 0 rfl ?_
  refine rf_bipush C (v := (nI 8)) dJ6_bitCount_0f7a4_36 rfl ?_
  refine rf_iushr C dJ6_bitCount_0f7a4_38 ?_
  refine rf_iadd C dJ6_bitCount_0f7a4_39 ?_
  refine rf_istore_n C (fun v4 => [(0, .int v4)]) dJ6_bitCount_0f7a4_40 rfl (by decide) (fun _ => rfl) (fun v4 => ?_)
  refine rf_iload_n C dJ6_bitCount_0f7a4_41 rfl 0 rfl ?_
  refine rf_iload_n C dJ6_bitCount_0f7a4_42 rfl 0 rfl ?_
  refine rf_bipush C (v := (nI 16)) dJ6_bitCount_0f7a4_43 rfl ?_
  refine rf_iushr C dJ6_bitCount_0f7a4_45 ?_
  refine rf_iadd C dJ6_bitCount_0f7a4_46 ?_
  refine rf_istore_n C (fun v5 => [(0, .int v5)]) dJ6_bitCount_0f7a4_47 rfl (by decide) (fun _ => rfl) (fun v5 => ?_)
  refine rf_iload_n C dJ6_bitCount_0f7a4_48 rfl 0 rfl ?_
  refine rf_bipush C (v := (nI 63)) dJ6_bitCount_0f7a4_49 rfl ?_
  refine rf_iand C dJ6_bitCount_0f7a4_51 ?_
  exact rf_iret C dJ6_bitCount_0f7a4_52

