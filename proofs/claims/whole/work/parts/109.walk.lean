def fX12_word (n : Nat) (a1 : Int32) (a2 : Int32) (a3 : Int32) (s0 : PH) : Option (Int32 × PH) :=
(bd (fX12_isProduction a1 s0) fun (r2 : Int32) (s1 : PH) =>
(if r2 = 0 then
(some ((-1 : Int32), s1))
else
(bd (fX12_isDepth a2 s1) fun (r4 : Int32) (s3 : PH) =>
(if r4 = 0 then
(some ((-1 : Int32), s3))
else
(if 0 ≤ a3 then
(lt a3 fun (v5 : Int32) =>
(lt (nI 0) fun (v6 : Int32) =>
(loo3 (fun (recrec10 : Int32 → Int32 → PH → Option (Int32 × PH)) (v7 : Int32) (v8 : Int32) (s9 : PH) =>
(if (nI 216) ≤ v8 then
(some ((-9 : Int32), s9))
else
(bd (fX12_has ((nI 2592) + ((nI 216) * a1)) a2 v8 s9) fun (r12 : Int32) (s11 : PH) =>
(jn (fun (v13 : Int32) (s14 : PH) =>
(lt (v8 + (nI 1)) fun (v16 : Int32) =>
(recrec10 v13 v16 s14))) (fun (j15 : Int32 → PH → Option (Int32 × PH)) =>
(if r12 = 0 then
(j15 v7 s11)
else
(if v7 = 0 then
(some (v8, s11))
else
(lt (v7 + (-1 : Int32)) fun (v17 : Int32) =>
(j15 v17 s11))))))))) n v5 v6 s3)))
else
(some ((-1 : Int32), s3)))))))
set_option maxRecDepth 20000 in
set_option maxHeartbeats 2000000 in
theorem mX12_word (l : Launch) (n : Nat) (a1 : Int32) (a2 : Int32) (a3 : Int32) (s0 : PH) : Cti 174 l yX12_word cX12_word 6 (some .int) (rmOf 2 43) (fun E => [.ref (E.2.1 148), .int a1, .int a2, .int a3]) s0 (fX12_word n a1 a2 a3 s0) := by
  refine Cti.of (by decide) rfl (lv := fun E => [(0, .ref (E.2.1 148)), (1, .int a1), (2, .int a2), (3, .int a3)]) (fun _ => Nat.le_of_ble_eq_true rfl) (fun _ => rfl) (fun Γ hΓ _ C => ?_)
  subst hΓ
  unfold fX12_word
  refine rf_aload_n C dX12_word_0 rfl 0 rfl ?_
  refine rf_iload_n C dX12_word_1 rfl 1 rfl ?_
  refine rf_callVi C (rmc := rmOf 1 22) [.int a1] (by decide) (mX12_isProduction (gL Γ) a1 s0) mfX12_isProduction mvX12_isProduction mlX12_214 rfl oX12 rfl rfl rfl (Nat.le_of_ble_eq_true rfl) ⟨Nat.le_of_ble_eq_true rfl, Nat.le_of_ble_eq_true rfl⟩ dX12_word_2 (fun r2 s1 => ?_)
  refine rf_if_eq C 19 dX12_word_5 (by decide) (fun _ => ?_) (fun _ => ?_)
  · refine rf_iconst C (v := (-1 : Int32)) dX12_word_19 rfl ?_
    exact rf_iret C dX12_word_20
  refine rf_iload_n C dX12_word_8 rfl 2 rfl ?_
  refine rf_callSi C (rmc := rmOf 1 22) [.int a2] (by decide) (mX12_isDepth (gL Γ) a2 s1) mfX12_isDepth msX12_isDepth mlX12_223 rfl rfl rfl (Nat.le_of_ble_eq_true rfl) ⟨Nat.le_of_ble_eq_true rfl, Nat.le_of_ble_eq_true rfl⟩ dX12_word_9 (fun r4 s3 => ?_)
  refine rf_if_eq C 19 dX12_word_12 (by decide) (fun _ => ?_) (fun _ => ?_)
  · refine rf_iconst C (v := (-1 : Int32)) dX12_word_19 rfl ?_
    exact rf_iret C dX12_word_20
  refine rf_iload_n C dX12_word_15 rfl 3 rfl ?_
  refine rf_if_ge C 21 dX12_word_16 (by decide) (fun _ => ?_) (fun _ => ?_)
  · refine rf_iload_n C dX12_word_21 rfl 3 rfl ?_
    refine rf_istore C (fun v5 => [(4, .int v5), (0, .ref ((gE Γ).2.1 148)), (1, .int a1), (2, .int a2), (3, .int a3)]) dX12_word_22 (by decide) (fun _ => rfl) (fun v5 => ?_)
    refine rf_iconst C (v := (nI 0)) dX12_word_24 rfl ?_
    refine rf_istore C (fun v6 => [(5, .int v6), (4, .int v5), (0, .ref ((gE Γ).2.1 148)), (1, .int a1), (2, .int a2), (3, .int a3)]) dX12_word_25 (by decide) (fun _ => rfl) (fun v6 => ?_)
    refine rf_sub [2, 3, 4, 1, 0] rfl ?_
    refine rf_loo3 (fun _ _ _ => True) (fun _ _ s9 => s9) (fun v7 v8 s9 => [(0, .ref ((gE Γ).2.1 148)), (1, .int a1), (2, .int a2), (4, .int v7), (5, .int v8)]) (fun recrec10 hrec10 v7 v8 s9 _ => ?_) n v5 v6 s3 trivial
    refine rf_iload C dX12_word_27 4 rfl ?_
    refine rf_sipush C (v := (nI 216)) dX12_word_29 rfl ?_
    refine rf_icmp_ge C 71 dX12_word_32 (by decide) (fun _ => ?_) (fun _ => ?_)
    · refine rf_bipush C (v := (-9 : Int32)) dX12_word_71 rfl ?_
      exact rf_iret C dX12_word_73
    refine rf_aload_n C dX12_word_35 rfl 0 rfl ?_
    refine rf_sipush C (v := (nI 2592)) dX12_word_36 rfl ?_
    refine rf_sipush C (v := (nI 216)) dX12_word_39 rfl ?_
    refine rf_iload_n C dX12_word_42 rfl 1 rfl ?_
    refine rf_imul C dX12_word_43 ?_
    refine rf_iadd C dX12_word_44 ?_
    refine rf_iload_n C dX12_word_45 rfl 2 rfl ?_
    refine rf_iload C dX12_word_46 4 rfl ?_
    refine rf_callVi C (rmc := rmOf 0 0) [.int ((nI 2592) + ((nI 216) * a1)), .int a2, .int v8] (by decide) (mX12_has (gL Γ) ((nI 2592) + ((nI 216) * a1)) a2 v8 s9) mfX12_has mvX12_has mlX12_182 rfl oX12 rfl rfl rfl (Nat.le_of_ble_eq_true rfl) ⟨Nat.le_of_ble_eq_true rfl, Nat.le_of_ble_eq_true rfl⟩ dX12_word_48 (fun r12 s11 => ?_)
    refine rf_jn2 (fun _ _ => True) (fun _ s14 => s14) (fun v13 s14 => [(0, .ref ((gE Γ).2.1 148)), (1, .int a1), (2, .int a2), (4, .int v13), (5, .int v8)]) (fun v13 s14 => []) 65 (fun v13 s14 _ => ?_) (fun j15 hj15 => ?_)
    · refine rf_iinc C (fun v16 => [(5, .int v16), (0, .ref ((gE Γ).2.1 148)), (1, .int a1), (2, .int a2), (4, .int v13)]) dX12_word_65 4 rfl rfl (by decide) (fun _ => rfl) (fun v16 => ?_)
      refine rf_goto C 27 dX12_word_68 (by decide) ?_
      exact rf_sub [1, 2, 3, 4, 0] rfl (hrec10 v13 v16 s14 trivial)
    refine rf_if_eq C 65 dX12_word_51 (by decide) (fun _ => ?_) (fun _ => ?_)
    · exact rf_sub [0, 1, 2, 3, 4] rfl (hj15 v7 s11 trivial)
    refine rf_iload C dX12_word_54 3 rfl ?_
    refine rf_if_ne C 62 dX12_word_56 (by decide) (fun _ => ?_) (fun _ => ?_)
    · refine rf_iinc C (fun v17 => [(4, .int v17), (0, .ref ((gE Γ).2.1 148)), (1, .int a1), (2, .int a2), (5, .int v8)]) dX12_word_62 3 rfl rfl (by decide) (fun _ => rfl) (fun v17 => ?_)
      exact rf_sub [1, 2, 3, 0, 4] rfl (hj15 v17 s11 trivial)
    refine rf_iload C dX12_word_59 4 rfl ?_
    exact rf_iret C dX12_word_61
  refine rf_iconst C (v := (-1 : Int32)) dX12_word_19 rfl ?_
  exact rf_iret C dX12_word_20

def fX12_marksOf (n : Nat) (a1 : Int32) (a2 : Int32) (s0 : PH) : Option (Int32 × PH) :=
(lt (nI 0) fun (v1 : Int32) =>
(lt (nI 0) fun (v2 : Int32) =>
(loo3 (fun (recrec6 : Int32 → Int32 → PH → Option (Int32 × PH)) (v3 : Int32) (v4 : Int32) (s5 : PH) =>
(if (nI 216) ≤ v4 then
(some (v3, s5))
else
(ra 3456 (((nI 216) * a1) + v4) (s5.1 160) fun (v7 : Int32) =>
(jn (fun (v8 : Int32) (s9 : PH) =>
(lt (v4 + (nI 1)) fun (v11 : Int32) =>
(recrec6 v8 v11 s9))) (fun (j10 : Int32 → PH → Option (Int32 × PH)) =>
(if v7 = 0 then
(j10 v3 s5)
else
(bd (fX12_lettersOf v4 s5) fun (r13 : Int32) (s12 : PH) =>
(jn (fun (v14 : Int32) (s15 : PH) =>
(lt (v3 ||| v14) fun (v17 : Int32) =>
(j10 v17 s15))) (fun (j16 : Int32 → PH → Option (Int32 × PH)) =>
(if a2 < r13 then
(bd (fX12_cut v4 (a2 + (nI 1)) s12) fun (r19 : Int32) (s18 : PH) =>
(j16 ((nI 1) <<< (((r19 - r19 / (nI 6) * (nI 6)) - (nI 1)) &&& 31)) s18))
else
(j16 (nI 32) s12))))))))))) n v1 v2 s0)))
set_option maxRecDepth 20000 in
set_option maxHeartbeats 2000000 in
theorem mX12_marksOf (l : Launch) (n : Nat) (a1 : Int32) (a2 : Int32) (s0 : PH) : Cti 174 l yX12_marksOf cX12_marksOf 5 (some .int) (rmOf 2 42) (fun E => [.ref (E.2.1 148), .int a1, .int a2]) s0 (fX12_marksOf n a1 a2 s0) := by
  refine Cti.of (by decide) rfl (lv := fun E => [(0, .ref (E.2.1 148)), (1, .int a1), (2, .int a2)]) (fun _ => Nat.le_of_ble_eq_true rfl) (fun _ => rfl) (fun Γ hΓ _ C => ?_)
  subst hΓ
  unfold fX12_marksOf
  refine rf_iconst C (v := (nI 0)) dX12_marksOf_0 rfl ?_
  refine rf_istore_n C (fun v1 => [(3, .int v1), (0, .ref ((gE Γ).2.1 148)), (1, .int a1), (2, .int a2)]) dX12_marksOf_1 rfl (by decide) (fun _ => rfl) (fun v1 => ?_)
  refine rf_iconst C (v := (nI 0)) dX12_marksOf_2 rfl ?_
  refine rf_istore C (fun v2 => [(4, .int v2), (3, .int v1), (0, .ref ((gE Γ).2.1 148)), (1, .int a1), (2, .int a2)]) dX12_marksOf_3 (by decide) (fun _ => rfl) (fun v2 => ?_)
  refine rf_sub [2, 3, 4, 1, 0] rfl ?_
  refine rf_loo3 (fun _ _ _ => True) (fun _ _ s5 => s5) (fun v3 v4 s5 => [(0, .ref ((gE Γ).2.1 148)), (1, .int a1), (2, .int a2), (3, .int v3), (4, .int v4)]) (fun recrec6 hrec6 v3 v4 s5 _ => ?_) n v1 v2 s0 trivial
  refine rf_iload C dX12_marksOf_5 4 rfl ?_
  refine rf_sipush C (v := (nI 216)) dX12_marksOf_7 rfl ?_
  refine rf_icmp_ge C 67 dX12_marksOf_10 (by decide) (fun _ => ?_) (fun _ => ?_)
  · refine rf_iload_n C dX12_marksOf_67 rfl 3 rfl ?_
    exact rf_iret C dX12_marksOf_68
  refine rf_aload_n C dX12_marksOf_13 rfl 0 rfl ?_
  refine rf_get C (v := .ref ((gE Γ).2.1 160)) cfX12 flX12_48 (by decide) oX12 rfl dX12_marksOf_14 ?_
  refine rf_sipush C (v := (nI 216)) dX12_marksOf_17 rfl ?_
  refine rf_iload_n C dX12_marksOf_20 rfl 1 rfl ?_
  refine rf_imul C dX12_marksOf_21 ?_
  refine rf_iload C dX12_marksOf_22 4 rfl ?_
  refine rf_iadd C dX12_marksOf_24 ?_
  refine rf_zald C ar160 dX12_marksOf_25 (fun v7 => ?_)
  refine rf_jn2 (fun _ _ => True) (fun _ s9 => s9) (fun v8 s9 => [(0, .ref ((gE Γ).2.1 148)), (1, .int a1), (2, .int a2), (3, .int v8), (4, .int v4)]) (fun v8 s9 => []) 61 (fun v8 s9 _ => ?_) (fun j10 hj10 => ?_)
  · refine rf_iinc C (fun v11 => [(4, .int v11), (0, .ref ((gE Γ).2.1 148)), (1, .int a1), (2, .int a2), (3, .int v8)]) dX12_marksOf_61 4 rfl rfl (by decide) (fun _ => rfl) (fun v11 => ?_)
    refine rf_goto C 5 dX12_marksOf_64 (by decide) ?_
    exact rf_sub [1, 2, 3, 4, 0] rfl (hrec6 v8 v11 s9 trivial)
  refine rf_if_eq C 61 dX12_marksOf_26 (by decide) (fun _ => ?_) (fun _ => ?_)
  · exact rf_sub [0, 1, 2, 3, 4] rfl (hj10 v3 s5 trivial)
  refine rf_iload_n C dX12_marksOf_29 rfl 3 rfl ?_
  refine rf_iload C dX12_marksOf_30 4 rfl ?_
  refine rf_callSi C (rmc := rmOf 0 0) [.int v4] (by decide) (mX12_lettersOf (gL Γ) v4 s5) mfX12_lettersOf msX12_lettersOf mlX12_131 rfl rfl rfl (Nat.le_of_ble_eq_true rfl) ⟨Nat.le_of_ble_eq_true rfl, Nat.le_of_ble_eq_true rfl⟩ dX12_marksOf_32 (fun r13 s12 => ?_)
  refine rf_iload_n C dX12_marksOf_35 rfl 2 rfl ?_
  refine rf_jn2 (fun _ _ => True) (fun _ s15 => s15) (fun v14 s15 => [(0, .ref ((gE Γ).2.1 148)), (1, .int a1), (2, .int a2), (4, .int v4)]) (fun v14 s15 => [.int v14, .int v3]) 59 (fun v14 s15 _ => ?_) (fun j16 hj16 => ?_)
  · refine rf_ior C dX12_marksOf_59 ?_
    refine rf_istore_n C (fun v17 => [(3, .int v17), (0, .ref ((gE Γ).2.1 148)), (1, .int a1), (2, .int a2), (4, .int v4)]) dX12_marksOf_60 rfl (by decide) (fun _ => rfl) (fun v17 => ?_)
    exact rf_sub [1, 2, 3, 0, 4] rfl (hj10 v17 s15 trivial)
  refine rf_icmp_gt C 44 dX12_marksOf_36 (by decide) (fun _ => ?_) (fun _ => ?_)
  · refine rf_iconst C (v := (nI 1)) dX12_marksOf_44 rfl ?_
    refine rf_iload C dX12_marksOf_45 4 rfl ?_
    refine rf_iload_n C dX12_marksOf_47 rfl 2 rfl ?_
    refine rf_iconst C (v := (nI 1)) dX12_marksOf_48 rfl ?_
    refine rf_iadd C dX12_marksOf_49 ?_
    refine rf_callSi C (rmc := rmOf 1 20) [.int v4, .int (a2 + (nI 1))] (by decide) (mX12_cut (gL Γ) v4 (a2 + (nI 1)) s12) mfX12_cut msX12_cut mlX12_137 rfl rfl rfl (Nat.le_of_ble_eq_true rfl) ⟨Nat.le_of_ble_eq_true rfl, Nat.le_of_ble_eq_true rfl⟩ dX12_marksOf_50 (fun r19 s18 => ?_)
    refine rf_bipush C (v := (nI 6)) dX12_marksOf_53 rfl ?_
    refine rf_irem C dX12_marksOf_55 (by decide) ?_
    refine rf_iconst C (v := (nI 1)) dX12_marksOf_56 rfl ?_
    refine rf_isub C dX12_marksOf_57 ?_
    refine rf_ishl C dX12_marksOf_58 ?_
    exact rf_sub [0, 1, 2, 4] rfl (hj16 ((nI 1) <<< (((r19 - r19 / (nI 6) * (nI 6)) - (nI 1)) &&& 31)) s18 trivial)
  refine rf_bipush C (v := (nI 32)) dX12_marksOf_39 rfl ?_
  refine rf_goto C 59 dX12_marksOf_41 (by decide) ?_
  exact rf_sub [0, 1, 2, 4] rfl (hj16 (nI 32) s12 trivial)

def fX12_marks (n : Nat) (a1 : Int32) (a2 : Int32) (s0 : PH) : Option (Int32 × PH) :=
(bd (fX12_isProduction a1 s0) fun (r2 : Int32) (s1 : PH) =>
(if r2 = 0 then
(some ((-1 : Int32), s1))
else
(bd (fX12_in a2 (nI 0) (nI 2) s1) fun (r4 : Int32) (s3 : PH) =>
(if r4 = 0 then
(some ((-1 : Int32), s3))
else
(bd (fX12_marksOf n a1 a2 s3) fun (r6 : Int32) (s5 : PH) =>
(some (r6, s5)))))))
set_option maxRecDepth 20000 in
set_option maxHeartbeats 2000000 in
theorem mX12_marks (l : Launch) (n : Nat) (a1 : Int32) (a2 : Int32) (s0 : PH) : Cti 174 l yX12_marks cX12_marks 3 (some .int) (rmOf 3 66) (fun E => [.ref (E.2.1 148), .int a1, .int a2]) s0 (fX12_marks n a1 a2 s0) := by
  refine Cti.of (by decide) rfl (lv := fun E => [(0, .ref (E.2.1 148)), (1, .int a1), (2, .int a2)]) (fun _ => Nat.le_of_ble_eq_true rfl) (fun _ => rfl) (fun Γ hΓ _ C => ?_)
  subst hΓ
  unfold fX12_marks
  refine rf_aload_n C dX12_marks_0 rfl 0 rfl ?_
  refine rf_iload_n C dX12_marks_1 rfl 1 rfl ?_
  refine rf_callVi C (rmc := rmOf 1 22) [.int a1] (by decide) (mX12_isProduction (gL Γ) a1 s0) mfX12_isProduction mvX12_isProduction mlX12_214 rfl oX12 rfl rfl rfl (Nat.le_of_ble_eq_true rfl) ⟨Nat.le_of_ble_eq_true rfl, Nat.le_of_ble_eq_true rfl⟩ dX12_marks_2 (fun r2 s1 => ?_)
  refine rf_if_eq C 26 dX12_marks_5 (by decide) (fun _ => ?_) (fun _ => ?_)
  · refine rf_iconst C (v := (-1 : Int32)) dX12_marks_26 rfl ?_
    exact rf_iret C dX12_marks_27
  refine rf_iload_n C dX12_marks_8 rfl 2 rfl ?_
  refine rf_iconst C (v := (nI 0)) dX12_marks_9 rfl ?_
  refine rf_iconst C (v := (nI 2)) dX12_marks_10 rfl ?_
  refine rf_callSi C (rmc := rmOf 0 0) [.int a2, .int (nI 0), .int (nI 2)] (by decide) (mX12_in (gL Γ) a2 (nI 0) (nI 2) s1) mfX12_in msX12_in mlX12_98 rfl rfl rfl (Nat.le_of_ble_eq_true rfl) ⟨Nat.le_of_ble_eq_true rfl, Nat.le_of_ble_eq_true rfl⟩ dX12_marks_11 (fun r4 s3 => ?_)
  refine rf_if_eq C 26 dX12_marks_14 (by decide) (fun _ => ?_) (fun _ => ?_)
  · refine rf_iconst C (v := (-1 : Int32)) dX12_marks_26 rfl ?_
    exact rf_iret C dX12_marks_27
  refine rf_aload_n C dX12_marks_17 rfl 0 rfl ?_
  refine rf_iload_n C dX12_marks_18 rfl 1 rfl ?_
  refine rf_iload_n C dX12_marks_19 rfl 2 rfl ?_
  refine rf_callVi C (rmc := rmOf 2 42) [.int a1, .int a2] (by decide) (mX12_marksOf (gL Γ) n a1 a2 s3) mfX12_marksOf mvX12_marksOf mlX12_232 rfl oX12 rfl rfl rfl (Nat.le_of_ble_eq_true rfl) ⟨Nat.le_of_ble_eq_true rfl, Nat.le_of_ble_eq_true rfl⟩ dX12_marks_20 (fun r6 s5 => ?_)
  refine rf_goto C 27 dX12_marks_23 (by decide) ?_
  exact rf_iret C dX12_marks_27

def fX12_clashOf (n : Nat) (a1 : Int32) (a2 : Int32) (a3 : Int32) (s0 : PH) : Option (Int32 × PH) :=
(lt (nI 0) fun (v1 : Int32) =>
(loo2 (fun (recrec4 : Int32 → PH → Option (Int32 × PH)) (v2 : Int32) (s3 : PH) =>
(if (nI 216) ≤ v2 then
(some ((-9 : Int32), s3))
else
(bd (fX12_has ((nI 2592) + ((nI 216) * a1)) a3 v2 s3) fun (r6 : Int32) (s5 : PH) =>
(jn (fun (s7 : PH) =>
(lt (v2 + (nI 1)) fun (v9 : Int32) =>
(recrec4 v9 s7))) (fun (j8 : PH → Option (Int32 × PH)) =>
(if r6 = 0 then
(j8 s5)
else
(bd (fX12_has ((nI 2592) + ((nI 216) * a2)) a3 v2 s5) fun (r11 : Int32) (s10 : PH) =>
(if r11 = 0 then
(j8 s10)
else
(some (v2, s10)))))))))) n v1 s0))
set_option maxRecDepth 20000 in
set_option maxHeartbeats 2000000 in
theorem mX12_clashOf (l : Launch) (n : Nat) (a1 : Int32) (a2 : Int32) (a3 : Int32) (s0 : PH) : Cti 174 l yX12_clashOf cX12_clashOf 5 (some .int) (rmOf 1 23) (fun E => [.ref (E.2.1 148), .int a1, .int a2, .int a3]) s0 (fX12_clashOf n a1 a2 a3 s0) := by
  refine Cti.of (by decide) rfl (lv := fun E => [(0, .ref (E.2.1 148)), (1, .int a1), (2, .int a2), (3, .int a3)]) (fun _ => Nat.le_of_ble_eq_true rfl) (fun _ => rfl) (fun Γ hΓ _ C => ?_)
  subst hΓ
  unfold fX12_clashOf
  refine rf_iconst C (v := (nI 0)) dX12_clashOf_0 rfl ?_
  refine rf_istore C (fun v1 => [(4, .int v1), (0, .ref ((gE Γ).2.1 148)), (1, .int a1), (2, .int a2), (3, .int a3)]) dX12_clashOf_1 (by decide) (fun _ => rfl) (fun v1 => ?_)
  refine rf_sub [1, 2, 3, 4, 0] rfl ?_
  refine rf_loo2 (fun _ _ => True) (fun _ s3 => s3) (fun v2 s3 => [(0, .ref ((gE Γ).2.1 148)), (1, .int a1), (2, .int a2), (3, .int a3), (4, .int v2)]) (fun recrec4 hrec4 v2 s3 _ => ?_) n v1 s0 trivial
  refine rf_iload C dX12_clashOf_3 4 rfl ?_
  refine rf_sipush C (v := (nI 216)) dX12_clashOf_5 rfl ?_
  refine rf_icmp_ge C 58 dX12_clashOf_8 (by decide) (fun _ => ?_) (fun _ => ?_)
  · refine rf_bipush C (v := (-9 : Int32)) dX12_clashOf_58 rfl ?_
    exact rf_iret C dX12_clashOf_60
  refine rf_aload_n C dX12_clashOf_11 rfl 0 rfl ?_
  refine rf_sipush C (v := (nI 2592)) dX12_clashOf_12 rfl ?_
  refine rf_sipush C (v := (nI 216)) dX12_clashOf_15 rfl ?_
  refine rf_iload_n C dX12_clashOf_18 rfl 1 rfl ?_
  refine rf_imul C dX12_clashOf_19 ?_
  refine rf_iadd C dX12_clashOf_20 ?_
  refine rf_iload_n C dX12_clashOf_21 rfl 3 rfl ?_
  refine rf_iload C dX12_clashOf_22 4 rfl ?_
  refine rf_callVi C (rmc := rmOf 0 0) [.int ((nI 2592) + ((nI 216) * a1)), .int a3, .int v2] (by decide) (mX12_has (gL Γ) ((nI 2592) + ((nI 216) * a1)) a3 v2 s3) mfX12_has mvX12_has mlX12_182 rfl oX12 rfl rfl rfl (Nat.le_of_ble_eq_true rfl) ⟨Nat.le_of_ble_eq_true rfl, Nat.le_of_ble_eq_true rfl⟩ dX12_clashOf_24 (fun r6 s5 => ?_)
  refine rf_jn1 (fun _ => True) (fun  s7 => s7) (fun s7 => [(0, .ref ((gE Γ).2.1 148)), (1, .int a1), (2, .int a2), (3, .int a3), (4, .int v2)]) (fun s7 => []) 52 (fun s7 _ => ?_) (fun j8 hj8 => ?_)
  · refine rf_iinc C (fun v9 => [(4, .int v9), (0, .ref ((gE Γ).2.1 148)), (1, .int a1), (2, .int a2), (3, .int a3)]) dX12_clashOf_52 4 rfl rfl (by decide) (fun _ => rfl) (fun v9 => ?_)
    refine rf_goto C 3 dX12_clashOf_55 (by decide) ?_
    exact rf_sub [1, 2, 3, 4, 0] rfl (hrec4 v9 s7 trivial)
  refine rf_if_eq C 52 dX12_clashOf_27 (by decide) (fun _ => ?_) (fun _ => ?_)
  · exact rf_sub [0, 1, 2, 3, 4] rfl (hj8 s5 trivial)
  refine rf_aload_n C dX12_clashOf_30 rfl 0 rfl ?_
  refine rf_sipush C (v := (nI 2592)) dX12_clashOf_31 rfl ?_
  refine rf_sipush C (v := (nI 216)) dX12_clashOf_34 rfl ?_
  refine rf_iload_n C dX12_clashOf_37 rfl 2 rfl ?_
  refine rf_imul C dX12_clashOf_38 ?_
  refine rf_iadd C dX12_clashOf_39 ?_
  refine rf_iload_n C dX12_clashOf_40 rfl 3 rfl ?_
  refine rf_iload C dX12_clashOf_41 4 rfl ?_
  refine rf_callVi C (rmc := rmOf 0 0) [.int ((nI 2592) + ((nI 216) * a2)), .int a3, .int v2] (by decide) (mX12_has (gL Γ) ((nI 2592) + ((nI 216) * a2)) a3 v2 s5) mfX12_has mvX12_has mlX12_182 rfl oX12 rfl rfl rfl (Nat.le_of_ble_eq_true rfl) ⟨Nat.le_of_ble_eq_true rfl, Nat.le_of_ble_eq_true rfl⟩ dX12_clashOf_43 (fun r11 s10 => ?_)
  refine rf_if_eq C 52 dX12_clashOf_46 (by decide) (fun _ => ?_) (fun _ => ?_)
  · exact rf_sub [0, 1, 2, 3, 4] rfl (hj8 s10 trivial)
  refine rf_iload C dX12_clashOf_49 4 rfl ?_
  exact rf_iret C dX12_clashOf_51

def fX12_pairOf (n : Nat) (a1 : Int32) (a2 : Int32) (s0 : PH) : Option (Int32 × PH) :=
(lt (nI 0) fun (v1 : Int32) =>
(loo2 (fun (recrec4 : Int32 → PH → Option (Int32 × PH)) (v2 : Int32) (s3 : PH) =>
(bd (fX12_many s3) fun (r6 : Int32) (s5 : PH) =>
(if r6 ≤ v2 then
(some ((-9 : Int32), s5))
else
(lt (v2 + (nI 1)) fun (v7 : Int32) =>
(loo2 (fun (recrec10 : Int32 → PH → Option (Int32 × PH)) (v8 : Int32) (s9 : PH) =>
(bd (fX12_many s9) fun (r12 : Int32) (s11 : PH) =>
(if r12 ≤ v8 then
(lt (v2 + (nI 1)) fun (v13 : Int32) =>
(recrec4 v13 s11))
else
(bd (fX12_left v2 s11) fun (r15 : Int32) (s14 : PH) =>
(jn (fun (s16 : PH) =>
(lt (v8 + (nI 1)) fun (v18 : Int32) =>
(recrec10 v18 s16))) (fun (j17 : PH → Option (Int32 × PH)) =>
(if r15 = a1 then
(bd (fX12_left v8 s14) fun (r20 : Int32) (s19 : PH) =>
(if r20 = a1 then
(bd (fX12_clashOf n v2 v8 a2 s19) fun (r22 : Int32) (s21 : PH) =>
(if r22 = (-9 : Int32) then
(j17 s21)
else
(some ((((nI 100) * v2) + v8), s21))))
else
(j17 s19)))
else
(j17 s14)))))))) n v7 s5))))) n v1 s0))
set_option maxRecDepth 20000 in
set_option maxHeartbeats 2000000 in
theorem mX12_pairOf (l : Launch) (n : Nat) (a1 : Int32) (a2 : Int32) (s0 : PH) : Cti 174 l yX12_pairOf cX12_pairOf 5 (some .int) (rmOf 2 47) (fun E => [.ref (E.2.1 148), .int a1, .int a2]) s0 (fX12_pairOf n a1 a2 s0) := by
  refine Cti.of (by decide) rfl (lv := fun E => [(0, .ref (E.2.1 148)), (1, .int a1), (2, .int a2)]) (fun _ => Nat.le_of_ble_eq_true rfl) (fun _ => rfl) (fun Γ hΓ _ C => ?_)
  subst hΓ
  unfold fX12_pairOf
  refine rf_iconst C (v := (nI 0)) dX12_pairOf_0 rfl ?_
  refine rf_istore_n C (fun v1 => [(3, .int v1), (0, .ref ((gE Γ).2.1 148)), (1, .int a1), (2, .int a2)]) dX12_pairOf_1 rfl (by decide) (fun _ => rfl) (fun v1 => ?_)
  refine rf_sub [1, 2, 3, 0] rfl ?_
  refine rf_loo2 (fun _ _ => True) (fun _ s3 => s3) (fun v2 s3 => [(0, .ref ((gE Γ).2.1 148)), (1, .int a1), (2, .int a2), (3, .int v2)]) (fun recrec4 hrec4 v2 s3 _ => ?_) n v1 s0 trivial
  refine rf_iload_n C dX12_pairOf_2 rfl 3 rfl ?_
  refine rf_aload_n C dX12_pairOf_3 rfl 0 rfl ?_
  refine rf_callVi C (rmc := rmOf 0 0) [] (by decide) (mX12_many (gL Γ) s3) mfX12_many mvX12_many mlX12_94 rfl oX12 rfl rfl rfl (Nat.le_of_ble_eq_true rfl) ⟨Nat.le_of_ble_eq_true rfl, Nat.le_of_ble_eq_true rfl⟩ dX12_pairOf_4 (fun r6 s5 => ?_)
  refine rf_icmp_ge C 76 dX12_pairOf_7 (by decide) (fun _ => ?_) (fun _ => ?_)
  · refine rf_bipush C (v := (-9 : Int32)) dX12_pairOf_76 rfl ?_
    exact rf_iret C dX12_pairOf_78
  refine rf_iload_n C dX12_pairOf_10 rfl 3 rfl ?_
  refine rf_iconst C (v := (nI 1)) dX12_pairOf_11 rfl ?_
  refine rf_iadd C dX12_pairOf_12 ?_
  refine rf_istore C (fun v7 => [(4, .int v7), (0, .ref ((gE Γ).2.1 148)), (1, .int a1), (2, .int a2), (3, .int v2)]) dX12_pairOf_13 (by decide) (fun _ => rfl) (fun v7 => ?_)
  refine rf_sub [1, 2, 3, 4, 0] rfl ?_
  refine rf_loo2 (fun _ _ => True) (fun _ s9 => s9) (fun v8 s9 => [(0, .ref ((gE Γ).2.1 148)), (1, .int a1), (2, .int a2), (3, .int v2), (4, .int v8)]) (fun recrec10 hrec10 v8 s9 _ => ?_) n v7 s5 trivial
  refine rf_iload C dX12_pairOf_15 4 rfl ?_
  refine rf_aload_n C dX12_pairOf_17 rfl 0 rfl ?_
  refine rf_callVi C (rmc := rmOf 0 0) [] (by decide) (mX12_many (gL Γ) s9) mfX12_many mvX12_many mlX12_94 rfl oX12 rfl rfl rfl (Nat.le_of_ble_eq_true rfl) ⟨Nat.le_of_ble_eq_true rfl, Nat.le_of_ble_eq_true rfl⟩ dX12_pairOf_18 (fun r12 s11 => ?_)
  refine rf_icmp_ge C 70 dX12_pairOf_21 (by decide) (fun _ => ?_) (fun _ => ?_)
  · refine rf_iinc C (fun v13 => [(3, .int v13), (0, .ref ((gE Γ).2.1 148)), (1, .int a1), (2, .int a2), (4, .int v8)]) dX12_pairOf_70 3 rfl rfl (by decide) (fun _ => rfl) (fun v13 => ?_)
    refine rf_goto C 2 dX12_pairOf_73 (by decide) ?_
    exact rf_sub [1, 2, 3, 0] rfl (hrec4 v13 s11 trivial)
  refine rf_aload_n C dX12_pairOf_24 rfl 0 rfl ?_
  refine rf_iload_n C dX12_pairOf_25 rfl 3 rfl ?_
  refine rf_callVi C (rmc := rmOf 0 0) [.int v2] (by decide) (mX12_left (gL Γ) v2 s11) mfX12_left mvX12_left mlX12_102 rfl oX12 rfl rfl rfl (Nat.le_of_ble_eq_true rfl) ⟨Nat.le_of_ble_eq_true rfl, Nat.le_of_ble_eq_true rfl⟩ dX12_pairOf_26 (fun r15 s14 => ?_)
  refine rf_iload_n C dX12_pairOf_29 rfl 1 rfl ?_
  refine rf_jn1 (fun _ => True) (fun  s16 => s16) (fun s16 => [(0, .ref ((gE Γ).2.1 148)), (1, .int a1), (2, .int a2), (3, .int v2), (4, .int v8)]) (fun s16 => []) 64 (fun s16 _ => ?_) (fun j17 hj17 => ?_)
  · refine rf_iinc C (fun v18 => [(4, .int v18), (0, .ref ((gE Γ).2.1 148)), (1, .int a1), (2, .int a2), (3, .int v2)]) dX12_pairOf_64 4 rfl rfl (by decide) (fun _ => rfl) (fun v18 => ?_)
    refine rf_goto C 15 dX12_pairOf_67 (by decide) ?_
    exact rf_sub [1, 2, 3, 4, 0] rfl (hrec10 v18 s16 trivial)
  refine rf_icmp_ne C 64 dX12_pairOf_30 (by decide) (fun _ => ?_) (fun _ => ?_)
  · exact rf_sub [0, 1, 2, 3, 4] rfl (hj17 s14 trivial)
  refine rf_aload_n C dX12_pairOf_33 rfl 0 rfl ?_
  refine rf_iload C dX12_pairOf_34 4 rfl ?_
  refine rf_callVi C (rmc := rmOf 0 0) [.int v8] (by decide) (mX12_left (gL Γ) v8 s14) mfX12_left mvX12_left mlX12_102 rfl oX12 rfl rfl rfl (Nat.le_of_ble_eq_true rfl) ⟨Nat.le_of_ble_eq_true rfl, Nat.le_of_ble_eq_true rfl⟩ dX12_pairOf_36 (fun r20 s19 => ?_)
  refine rf_iload_n C dX12_pairOf_39 rfl 1 rfl ?_
  refine rf_icmp_ne C 64 dX12_pairOf_40 (by decide) (fun _ => ?_) (fun _ => ?_)
  · exact rf_sub [0, 1, 2, 3, 4] rfl (hj17 s19 trivial)
  refine rf_aload_n C dX12_pairOf_43 rfl 0 rfl ?_
  refine rf_iload_n C dX12_pairOf_44 rfl 3 rfl ?_
  refine rf_iload C dX12_pairOf_45 4 rfl ?_
  refine rf_iload_n C dX12_pairOf_47 rfl 2 rfl ?_
  refine rf_callVi C (rmc := rmOf 1 23) [.int v2, .int v8, .int a2] (by decide) (mX12_clashOf (gL Γ) n v2 v8 a2 s19) mfX12_clashOf mvX12_clashOf mlX12_235 rfl oX12 rfl rfl rfl (Nat.le_of_ble_eq_true rfl) ⟨Nat.le_of_ble_eq_true rfl, Nat.le_of_ble_eq_true rfl⟩ dX12_pairOf_48 (fun r22 s21 => ?_)
  refine rf_bipush C (v := (-9 : Int32)) dX12_pairOf_51 rfl ?_
  refine rf_icmp_eq C 64 dX12_pairOf_53 (by decide) (fun _ => ?_) (fun _ => ?_)
  · exact rf_sub [0, 1, 2, 3, 4] rfl (hj17 s21 trivial)
  refine rf_bipush C (v := (nI 100)) dX12_pairOf_56 rfl ?_
  refine rf_iload_n C dX12_pairOf_58 rfl 3 rfl ?_
  refine rf_imul C dX12_pairOf_59 ?_
  refine rf_iload C dX12_pairOf_60 4 rfl ?_
  refine rf_iadd C dX12_pairOf_62 ?_
  exact rf_iret C dX12_pairOf_63

def fX12_depthOf (n : Nat) (a1 : Int32) (s0 : PH) : Option (Int32 × PH) :=
(lt (nI 0) fun (v1 : Int32) =>
(loo2 (fun (recrec4 : Int32 → PH → Option (Int32 × PH)) (v2 : Int32) (s3 : PH) =>
(if (nI 4) ≤ v2 then
(some ((-9 : Int32), s3))
else
(bd (fX12_pairOf n a1 v2 s3) fun (r6 : Int32) (s5 : PH) =>
(if r6 = (-9 : Int32) then
(some (v2, s5))
else
(lt (v2 + (nI 1)) fun (v7 : Int32) =>
(recrec4 v7 s5)))))) n v1 s0))
set_option maxRecDepth 20000 in
set_option maxHeartbeats 2000000 in
theorem mX12_depthOf (l : Launch) (n : Nat) (a1 : Int32) (s0 : PH) : Cti 174 l yX12_depthOf cX12_depthOf 3 (some .int) (rmOf 3 71) (fun E => [.ref (E.2.1 148), .int a1]) s0 (fX12_depthOf n a1 s0) := by
  refine Cti.of (by decide) rfl (lv := fun E => [(0, .ref (E.2.1 148)), (1, .int a1)]) (fun _ => Nat.le_of_ble_eq_true rfl) (fun _ => rfl) (fun Γ hΓ _ C => ?_)
  subst hΓ
  unfold fX12_depthOf
  refine rf_iconst C (v := (nI 0)) dX12_depthOf_0 rfl ?_
  refine rf_istore_n C (fun v1 => [(2, .int v1), (0, .ref ((gE Γ).2.1 148)), (1, .int a1)]) dX12_depthOf_1 rfl (by decide) (fun _ => rfl) (fun v1 => ?_)
  refine rf_sub [1, 2, 0] rfl ?_
  refine rf_loo2 (fun _ _ => True) (fun _ s3 => s3) (fun v2 s3 => [(0, .ref ((gE Γ).2.1 148)), (1, .int a1), (2, .int v2)]) (fun recrec4 hrec4 v2 s3 _ => ?_) n v1 s0 trivial
  refine rf_iload_n C dX12_depthOf_2 rfl 2 rfl ?_
  refine rf_iconst C (v := (nI 4)) dX12_depthOf_3 rfl ?_
  refine rf_icmp_ge C 26 dX12_depthOf_4 (by decide) (fun _ => ?_) (fun _ => ?_)
  · refine rf_bipush C (v := (-9 : Int32)) dX12_depthOf_26 rfl ?_
    exact rf_iret C dX12_depthOf_28
  refine rf_aload_n C dX12_depthOf_7 rfl 0 rfl ?_
  refine rf_iload_n C dX12_depthOf_8 rfl 1 rfl ?_
  refine rf_iload_n C dX12_depthOf_9 rfl 2 rfl ?_
  refine rf_callVi C (rmc := rmOf 2 47) [.int a1, .int v2] (by decide) (mX12_pairOf (gL Γ) n a1 v2 s3) mfX12_pairOf mvX12_pairOf mlX12_239 rfl oX12 rfl rfl rfl (Nat.le_of_ble_eq_true rfl) ⟨Nat.le_of_ble_eq_true rfl, Nat.le_of_ble_eq_true rfl⟩ dX12_depthOf_10 (fun r6 s5 => ?_)
  refine rf_bipush C (v := (-9 : Int32)) dX12_depthOf_13 rfl ?_
  refine rf_icmp_ne C 20 dX12_depthOf_15 (by decide) (fun _ => ?_) (fun _ => ?_)
  · refine rf_iinc C (fun v7 => [(2, .int v7), (0, .ref ((gE Γ).2.1 148)), (1, .int a1)]) dX12_depthOf_20 2 rfl rfl (by decide) (fun _ => rfl) (fun v7 => ?_)
    refine rf_goto C 2 dX12_depthOf_23 (by decide) ?_
    exact rf_sub [1, 2, 0] rfl (hrec4 v7 s5 trivial)
  refine rf_iload_n C dX12_depthOf_18 rfl 2 rfl ?_
  exact rf_iret C dX12_depthOf_19

def fX12_depth (n : Nat) (a1 : Int32) (s0 : PH) : Option (Int32 × PH) :=
(bd (fX12_isDefined n a1 s0) fun (r2 : Int32) (s1 : PH) =>
(if r2 = 0 then
(some ((-1 : Int32), s1))
else
(bd (fX12_depthOf n a1 s1) fun (r4 : Int32) (s3 : PH) =>
(some (r4, s3)))))
set_option maxRecDepth 20000 in
set_option maxHeartbeats 2000000 in
theorem mX12_depth (l : Launch) (n : Nat) (a1 : Int32) (s0 : PH) : Cti 174 l yX12_depth cX12_depth 2 (some .int) (rmOf 4 93) (fun E => [.ref (E.2.1 148), .int a1]) s0 (fX12_depth n a1 s0) := by
  refine Cti.of (by decide) rfl (lv := fun E => [(0, .ref (E.2.1 148)), (1, .int a1)]) (fun _ => Nat.le_of_ble_eq_true rfl) (fun _ => rfl) (fun Γ hΓ _ C => ?_)
  subst hΓ
  unfold fX12_depth
  refine rf_aload_n C dX12_depth_0 rfl 0 rfl ?_
  refine rf_iload_n C dX12_depth_1 rfl 1 rfl ?_
  refine rf_callVi C (rmc := rmOf 2 44) [.int a1] (by decide) (mX12_isDefined (gL Γ) n a1 s0) mfX12_isDefined mvX12_isDefined mlX12_217 rfl oX12 rfl rfl rfl (Nat.le_of_ble_eq_true rfl) ⟨Nat.le_of_ble_eq_true rfl, Nat.le_of_ble_eq_true rfl⟩ dX12_depth_2 (fun r2 s1 => ?_)
  refine rf_if_eq C 16 dX12_depth_5 (by decide) (fun _ => ?_) (fun _ => ?_)
  · refine rf_iconst C (v := (-1 : Int32)) dX12_depth_16 rfl ?_
    exact rf_iret C dX12_depth_17
  refine rf_aload_n C dX12_depth_8 rfl 0 rfl ?_
  refine rf_iload_n C dX12_depth_9 rfl 1 rfl ?_
  refine rf_callVi C (rmc := rmOf 3 71) [.int a1] (by decide) (mX12_depthOf (gL Γ) n a1 s1) mfX12_depthOf mvX12_depthOf mlX12_242 rfl oX12 rfl rfl rfl (Nat.le_of_ble_eq_true rfl) ⟨Nat.le_of_ble_eq_true rfl, Nat.le_of_ble_eq_true rfl⟩ dX12_depth_10 (fun r4 s3 => ?_)
  refine rf_goto C 17 dX12_depth_13 (by decide) ?_
  exact rf_iret C dX12_depth_17

def fX12_partedAt (n : Nat) (a1 : Int32) (a2 : Int32) (s0 : PH) : Option (Int32 × PH) :=
(lt (nI 0) fun (v1 : Int32) =>
(loo2 (fun (recrec4 : Int32 → PH → Option (Int32 × PH)) (v2 : Int32) (s3 : PH) =>
(if (nI 3) ≤ v2 then
(some (v2, s3))
else
(bd (fX12_marksOf n a1 v2 s3) fun (r6 : Int32) (s5 : PH) =>
(bd (fX12_marksOf n a2 v2 s5) fun (r8 : Int32) (s7 : PH) =>
(if (r6 &&& r8) = 0 then
(some (v2, s7))
else
(lt (v2 + (nI 1)) fun (v9 : Int32) =>
(recrec4 v9 s7))))))) n v1 s0))
set_option maxRecDepth 20000 in
set_option maxHeartbeats 2000000 in
theorem mX12_partedAt (l : Launch) (n : Nat) (a1 : Int32) (a2 : Int32) (s0 : PH) : Cti 174 l yX12_partedAt cX12_partedAt 4 (some .int) (rmOf 3 66) (fun E => [.ref (E.2.1 148), .int a1, .int a2]) s0 (fX12_partedAt n a1 a2 s0) := by
  refine Cti.of (by decide) rfl (lv := fun E => [(0, .ref (E.2.1 148)), (1, .int a1), (2, .int a2)]) (fun _ => Nat.le_of_ble_eq_true rfl) (fun _ => rfl) (fun Γ hΓ _ C => ?_)
  subst hΓ
  unfold fX12_partedAt
  refine rf_iconst C (v := (nI 0)) dX12_partedAt_0 rfl ?_
  refine rf_istore_n C (fun v1 => [(3, .int v1), (0, .ref ((gE Γ).2.1 148)), (1, .int a1), (2, .int a2)]) dX12_partedAt_1 rfl (by decide) (fun _ => rfl) (fun v1 => ?_)
  refine rf_sub [1, 2, 3, 0] rfl ?_
  refine rf_loo2 (fun _ _ => True) (fun _ s3 => s3) (fun v2 s3 => [(0, .ref ((gE Γ).2.1 148)), (1, .int a1), (2, .int a2), (3, .int v2)]) (fun recrec4 hrec4 v2 s3 _ => ?_) n v1 s0 trivial
  refine rf_iload_n C dX12_partedAt_2 rfl 3 rfl ?_
  refine rf_iconst C (v := (nI 3)) dX12_partedAt_3 rfl ?_
  refine rf_icmp_ge C 29 dX12_partedAt_4 (by decide) (fun _ => ?_) (fun _ => ?_)
  · refine rf_iload_n C dX12_partedAt_29 rfl 3 rfl ?_
    exact rf_iret C dX12_partedAt_30
  refine rf_aload_n C dX12_partedAt_7 rfl 0 rfl ?_
  refine rf_iload_n C dX12_partedAt_8 rfl 1 rfl ?_
  refine rf_iload_n C dX12_partedAt_9 rfl 3 rfl ?_
  refine rf_callVi C (rmc := rmOf 2 42) [.int a1, .int v2] (by decide) (mX12_marksOf (gL Γ) n a1 v2 s3) mfX12_marksOf mvX12_marksOf mlX12_232 rfl oX12 rfl rfl rfl (Nat.le_of_ble_eq_true rfl) ⟨Nat.le_of_ble_eq_true rfl, Nat.le_of_ble_eq_true rfl⟩ dX12_partedAt_10 (fun r6 s5 => ?_)
  refine rf_aload_n C dX12_partedAt_13 rfl 0 rfl ?_
  refine rf_iload_n C dX12_partedAt_14 rfl 2 rfl ?_
  refine rf_iload_n C dX12_partedAt_15 rfl 3 rfl ?_
  refine rf_callVi C (rmc := rmOf 2 42) [.int a2, .int v2] (by decide) (mX12_marksOf (gL Γ) n a2 v2 s5) mfX12_marksOf mvX12_marksOf mlX12_232 rfl oX12 rfl rfl rfl (Nat.le_of_ble_eq_true rfl) ⟨Nat.le_of_ble_eq_true rfl, Nat.le_of_ble_eq_true rfl⟩ dX12_partedAt_16 (fun r8 s7 => ?_)
  refine rf_iand C dX12_partedAt_19 ?_
  refine rf_if_eq C 29 dX12_partedAt_20 (by decide) (fun _ => ?_) (fun _ => ?_)
  · refine rf_iload_n C dX12_partedAt_29 rfl 3 rfl ?_
    exact rf_iret C dX12_partedAt_30
  refine rf_iinc C (fun v9 => [(3, .int v9), (0, .ref ((gE Γ).2.1 148)), (1, .int a1), (2, .int a2)]) dX12_partedAt_23 3 rfl rfl (by decide) (fun _ => rfl) (fun v9 => ?_)
  refine rf_goto C 2 dX12_partedAt_26 (by decide) ?_
  exact rf_sub [1, 2, 3, 0] rfl (hrec4 v9 s7 trivial)

def fX12_approximateOf (n : Nat) (a1 : Int32) (s0 : PH) : Option (Int32 × PH) :=
(lt (nI 0) fun (v1 : Int32) =>
(lt (nI 0) fun (v2 : Int32) =>
(loo3 (fun (recrec6 : Int32 → Int32 → PH → Option (Int32 × PH)) (v3 : Int32) (v4 : Int32) (s5 : PH) =>
(bd (fX12_many s5) fun (r8 : Int32) (s7 : PH) =>
(if r8 ≤ v4 then
(if v3 ≤ (nI 3) then
(some (v3, s7))
else
(some ((-9 : Int32), s7)))
else
(lt (v4 + (nI 1)) fun (v9 : Int32) =>
(loo3 (fun (recrec13 : Int32 → Int32 → PH → Option (Int32 × PH)) (v10 : Int32) (v11 : Int32) (s12 : PH) =>
(bd (fX12_many s12) fun (r15 : Int32) (s14 : PH) =>
(if r15 ≤ v11 then
(lt (v4 + (nI 1)) fun (v16 : Int32) =>
(recrec6 v10 v16 s14))
else
(bd (fX12_left v4 s14) fun (r18 : Int32) (s17 : PH) =>
(jn (fun (v19 : Int32) (s20 : PH) =>
(lt (v11 + (nI 1)) fun (v22 : Int32) =>
(recrec13 v19 v22 s20))) (fun (j21 : Int32 → PH → Option (Int32 × PH)) =>
(if r18 = a1 then
(bd (fX12_left v11 s17) fun (r24 : Int32) (s23 : PH) =>
(if r24 = a1 then
(bd (fX12_partedAt n v4 v11 s23) fun (r26 : Int32) (s25 : PH) =>
(lt (r26 + (nI 1)) fun (v27 : Int32) =>
(jn (fun (v28 : Int32) (s29 : PH) =>
(lt v28 fun (v31 : Int32) =>
(j21 v31 s29))) (fun (j30 : Int32 → PH → Option (Int32 × PH)) =>
(if v27 ≤ v10 then
(j30 v10 s25)
else
(j30 v27 s25))))))
else
(j21 v10 s23)))
else
(j21 v10 s17)))))))) n v3 v9 s7))))) n v1 v2 s0)))
set_option maxRecDepth 20000 in
set_option maxHeartbeats 2000000 in
theorem mX12_approximateOf (l : Launch) (n : Nat) (a1 : Int32) (s0 : PH) : Cti 174 l yX12_approximateOf cX12_approximateOf 6 (some .int) (rmOf 4 89) (fun E => [.ref (E.2.1 148), .int a1]) s0 (fX12_approximateOf n a1 s0) := by
  refine Cti.of (by decide) rfl (lv := fun E => [(0, .ref (E.2.1 148)), (1, .int a1)]) (fun _ => Nat.le_of_ble_eq_true rfl) (fun _ => rfl) (fun Γ hΓ _ C => ?_)
  subst hΓ
  unfold fX12_approximateOf
  refine rf_iconst C (v := (nI 0)) dX12_approximateOf_0 rfl ?_
  refine rf_istore_n C (fun v1 => [(2, .int v1), (0, .ref ((gE Γ).2.1 148)), (1, .int a1)]) dX12_approximateOf_1 rfl (by decide) (fun _ => rfl) (fun v1 => ?_)
  refine rf_iconst C (v := (nI 0)) dX12_approximateOf_2 rfl ?_
  refine rf_istore_n C (fun v2 => [(3, .int v2), (2, .int v1), (0, .ref ((gE Γ).2.1 148)), (1, .int a1)]) dX12_approximateOf_3 rfl (by decide) (fun _ => rfl) (fun v2 => ?_)
  refine rf_sub [2, 3, 1, 0] rfl ?_
  refine rf_loo3 (fun _ _ _ => True) (fun _ _ s5 => s5) (fun v3 v4 s5 => [(0, .ref ((gE Γ).2.1 148)), (1, .int a1), (2, .int v3), (3, .int v4)]) (fun recrec6 hrec6 v3 v4 s5 _ => ?_) n v1 v2 s0 trivial
  refine rf_iload_n C dX12_approximateOf_4 rfl 3 rfl ?_
  refine rf_aload_n C dX12_approximateOf_5 rfl 0 rfl ?_
  refine rf_callVi C (rmc := rmOf 0 0) [] (by decide) (mX12_many (gL Γ) s5) mfX12_many mvX12_many mlX12_94 rfl oX12 rfl rfl rfl (Nat.le_of_ble_eq_true rfl) ⟨Nat.le_of_ble_eq_true rfl, Nat.le_of_ble_eq_true rfl⟩ dX12_approximateOf_6 (fun r8 s7 => ?_)
  refine rf_icmp_ge C 81 dX12_approximateOf_9 (by decide) (fun _ => ?_) (fun _ => ?_)
  · refine rf_iload_n C dX12_approximateOf_81 rfl 2 rfl ?_
    refine rf_iconst C (v := (nI 3)) dX12_approximateOf_82 rfl ?_
    refine rf_icmp_le C 91 dX12_approximateOf_83 (by decide) (fun _ => ?_) (fun _ => ?_)
    · refine rf_iload_n C dX12_approximateOf_91 rfl 2 rfl ?_
      exact rf_iret C dX12_approximateOf_92
    refine rf_bipush C (v := (-9 : Int32)) dX12_approximateOf_86 rfl ?_
    refine rf_goto C 92 dX12_approximateOf_88 (by decide) ?_
    exact rf_iret C dX12_approximateOf_92
  refine rf_iload_n C dX12_approximateOf_12 rfl 3 rfl ?_
  refine rf_iconst C (v := (nI 1)) dX12_approximateOf_13 rfl ?_
  refine rf_iadd C dX12_approximateOf_14 ?_
  refine rf_istore C (fun v9 => [(4, .int v9), (0, .ref ((gE Γ).2.1 148)), (1, .int a1), (2, .int v3), (3, .int v4)]) dX12_approximateOf_15 (by decide) (fun _ => rfl) (fun v9 => ?_)
  refine rf_sub [1, 2, 3, 4, 0] rfl ?_
  refine rf_loo3 (fun _ _ _ => True) (fun _ _ s12 => s12) (fun v10 v11 s12 => [(0, .ref ((gE Γ).2.1 148)), (1, .int a1), (2, .int v10), (3, .int v4), (4, .int v11)]) (fun recrec13 hrec13 v10 v11 s12 _ => ?_) n v3 v9 s7 trivial
  refine rf_iload C dX12_approximateOf_17 4 rfl ?_
  refine rf_aload_n C dX12_approximateOf_19 rfl 0 rfl ?_
  refine rf_callVi C (rmc := rmOf 0 0) [] (by decide) (mX12_many (gL Γ) s12) mfX12_many mvX12_many mlX12_94 rfl oX12 rfl rfl rfl (Nat.le_of_ble_eq_true rfl) ⟨Nat.le_of_ble_eq_true rfl, Nat.le_of_ble_eq_true rfl⟩ dX12_approximateOf_20 (fun r15 s14 => ?_)
  refine rf_icmp_ge C 75 dX12_approximateOf_23 (by decide) (fun _ => ?_) (fun _ => ?_)
  · refine rf_iinc C (fun v16 => [(3, .int v16), (0, .ref ((gE Γ).2.1 148)), (1, .int a1), (2, .int v10), (4, .int v11)]) dX12_approximateOf_75 3 rfl rfl (by decide) (fun _ => rfl) (fun v16 => ?_)
    refine rf_goto C 4 dX12_approximateOf_78 (by decide) ?_
    exact rf_sub [1, 2, 3, 0] rfl (hrec6 v10 v16 s14 trivial)
  refine rf_aload_n C dX12_approximateOf_26 rfl 0 rfl ?_
  refine rf_iload_n C dX12_approximateOf_27 rfl 3 rfl ?_
  refine rf_callVi C (rmc := rmOf 0 0) [.int v4] (by decide) (mX12_left (gL Γ) v4 s14) mfX12_left mvX12_left mlX12_102 rfl oX12 rfl rfl rfl (Nat.le_of_ble_eq_true rfl) ⟨Nat.le_of_ble_eq_true rfl, Nat.le_of_ble_eq_true rfl⟩ dX12_approximateOf_28 (fun r18 s17 => ?_)
  refine rf_iload_n C dX12_approximateOf_31 rfl 1 rfl ?_
  refine rf_jn2 (fun _ _ => True) (fun _ s20 => s20) (fun v19 s20 => [(0, .ref ((gE Γ).2.1 148)), (1, .int a1), (2, .int v19), (3, .int v4), (4, .int v11)]) (fun v19 s20 => []) 69 (fun v19 s20 _ => ?_) (fun j21 hj21 => ?_)
  · refine rf_iinc C (fun v22 => [(4, .int v22), (0, .ref ((gE Γ).2.1 148)), (1, .int a1), (2, .int v19), (3, .int v4)]) dX12_approximateOf_69 4 rfl rfl (by decide) (fun _ => rfl) (fun v22 => ?_)
    refine rf_goto C 17 dX12_approximateOf_72 (by decide) ?_
    exact rf_sub [1, 2, 3, 4, 0] rfl (hrec13 v19 v22 s20 trivial)
  refine rf_icmp_ne C 69 dX12_approximateOf_32 (by decide) (fun _ => ?_) (fun _ => ?_)
  · exact rf_sub [0, 1, 2, 3, 4] rfl (hj21 v10 s17 trivial)
  refine rf_aload_n C dX12_approximateOf_35 rfl 0 rfl ?_
  refine rf_iload C dX12_approximateOf_36 4 rfl ?_
  refine rf_callVi C (rmc := rmOf 0 0) [.int v11] (by decide) (mX12_left (gL Γ) v11 s17) mfX12_left mvX12_left mlX12_102 rfl oX12 rfl rfl rfl (Nat.le_of_ble_eq_true rfl) ⟨Nat.le_of_ble_eq_true rfl, Nat.le_of_ble_eq_true rfl⟩ dX12_approximateOf_38 (fun r24 s23 => ?_)
  refine rf_iload_n C dX12_approximateOf_41 rfl 1 rfl ?_
  refine rf_icmp_ne C 69 dX12_approximateOf_42 (by decide) (fun _ => ?_) (fun _ => ?_)
  · exact rf_sub [0, 1, 2, 3, 4] rfl (hj21 v10 s23 trivial)
  refine rf_aload_n C dX12_approximateOf_45 rfl 0 rfl ?_
  refine rf_iload_n C dX12_approximateOf_46 rfl 3 rfl ?_
  refine rf_iload C dX12_approximateOf_47 4 rfl ?_
  refine rf_callVi C (rmc := rmOf 3 66) [.int v4, .int v11] (by decide) (mX12_partedAt (gL Γ) n v4 v11 s23) mfX12_partedAt mvX12_partedAt mlX12_245 rfl oX12 rfl rfl rfl (Nat.le_of_ble_eq_true rfl) ⟨Nat.le_of_ble_eq_true rfl, Nat.le_of_ble_eq_true rfl⟩ dX12_approximateOf_49 (fun r26 s25 => ?_)
  refine rf_iconst C (v := (nI 1)) dX12_approximateOf_52 rfl ?_
  refine rf_iadd C dX12_approximateOf_53 ?_
  refine rf_istore C (fun v27 => [(5, .int v27), (0, .ref ((gE Γ).2.1 148)), (1, .int a1), (2, .int v10), (3, .int v4), (4, .int v11)]) dX12_approximateOf_54 (by decide) (fun _ => rfl) (fun v27 => ?_)
  refine rf_iload C dX12_approximateOf_56 0 rfl ?_
  refine rf_iload_n C dX12_approximateOf_58 rfl 3 rfl ?_
  refine rf_jn2 (fun _ _ => True) (fun _ s29 => s29) (fun v28 s29 => [(0, .ref ((gE Γ).2.1 148)), (1, .int a1), (3, .int v4), (4, .int v11)]) (fun v28 s29 => [.int v28]) 68 (fun v28 s29 _ => ?_) (fun j30 hj30 => ?_)
  · refine rf_istore_n C (fun v31 => [(2, .int v31), (0, .ref ((gE Γ).2.1 148)), (1, .int a1), (3, .int v4), (4, .int v11)]) dX12_approximateOf_68 rfl (by decide) (fun _ => rfl) (fun v31 => ?_)
    exact rf_sub [1, 2, 0, 3, 4] rfl (hj21 v31 s29 trivial)
  refine rf_icmp_le C 67 dX12_approximateOf_59 (by decide) (fun _ => ?_) (fun _ => ?_)
  · refine rf_iload_n C dX12_approximateOf_67 rfl 3 rfl ?_
    exact rf_sub [1, 2, 4, 5] rfl (hj30 v10 s25 trivial)
  refine rf_iload C dX12_approximateOf_62 0 rfl ?_
  refine rf_goto C 68 dX12_approximateOf_64 (by decide) ?_
  exact rf_sub [1, 2, 4, 5] rfl (hj30 v27 s25 trivial)

def fX12_approximate (n : Nat) (a1 : Int32) (s0 : PH) : Option (Int32 × PH) :=
(bd (fX12_isDefined n a1 s0) fun (r2 : Int32) (s1 : PH) =>
(if r2 = 0 then
(some ((-1 : Int32), s1))
else
(bd (fX12_approximateOf n a1 s1) fun (r4 : Int32) (s3 : PH) =>
(some (r4, s3)))))
set_option maxRecDepth 20000 in
set_option maxHeartbeats 2000000 in
theorem mX12_approximate (l : Launch) (n : Nat) (a1 : Int32) (s0 : PH) : Cti 174 l yX12_approximate cX12_approximate 2 (some .int) (rmOf 5 114) (fun E => [.ref (E.2.1 148), .int a1]) s0 (fX12_approximate n a1 s0) := by
  refine Cti.of (by decide) rfl (lv := fun E => [(0, .ref (E.2.1 148)), (1, .int a1)]) (fun _ => Nat.le_of_ble_eq_true rfl) (fun _ => rfl) (fun Γ hΓ _ C => ?_)
  subst hΓ
  unfold fX12_approximate
  refine rf_aload_n C dX12_approximate_0 rfl 0 rfl ?_
  refine rf_iload_n C dX12_approximate_1 rfl 1 rfl ?_
  refine rf_callVi C (rmc := rmOf 2 44) [.int a1] (by decide) (mX12_isDefined (gL Γ) n a1 s0) mfX12_isDefined mvX12_isDefined mlX12_217 rfl oX12 rfl rfl rfl (Nat.le_of_ble_eq_true rfl) ⟨Nat.le_of_ble_eq_true rfl, Nat.le_of_ble_eq_true rfl⟩ dX12_approximate_2 (fun r2 s1 => ?_)
  refine rf_if_eq C 16 dX12_approximate_5 (by decide) (fun _ => ?_) (fun _ => ?_)
  · refine rf_iconst C (v := (-1 : Int32)) dX12_approximate_16 rfl ?_
    exact rf_iret C dX12_approximate_17
  refine rf_aload_n C dX12_approximate_8 rfl 0 rfl ?_
  refine rf_iload_n C dX12_approximate_9 rfl 1 rfl ?_
  refine rf_callVi C (rmc := rmOf 4 89) [.int a1] (by decide) (mX12_approximateOf (gL Γ) n a1 s1) mfX12_approximateOf mvX12_approximateOf mlX12_248 rfl oX12 rfl rfl rfl (Nat.le_of_ble_eq_true rfl) ⟨Nat.le_of_ble_eq_true rfl, Nat.le_of_ble_eq_true rfl⟩ dX12_approximate_10 (fun r4 s3 => ?_)
  refine rf_goto C 17 dX12_approximate_13 (by decide) ?_
  exact rf_iret C dX12_approximate_17

def fX12_deepest (n : Nat) (a1 : Int32) (s0 : PH) : Option (Int32 × PH) :=
(lt (nI 0) fun (v1 : Int32) =>
(lt (nI 0) fun (v2 : Int32) =>
(loo3 (fun (recrec6 : Int32 → Int32 → PH → Option (Int32 × PH)) (v3 : Int32) (v4 : Int32) (s5 : PH) =>
(if (nI 6) ≤ v4 then
(some (v3, s5))
else
(bd (fX12_isDefined n v4 s5) fun (r8 : Int32) (s7 : PH) =>
(jn (fun (v9 : Int32) (s10 : PH) =>
(lt (v4 + (nI 1)) fun (v12 : Int32) =>
(recrec6 v9 v12 s10))) (fun (j11 : Int32 → PH → Option (Int32 × PH)) =>
(if r8 = 0 then
(j11 v3 s7)
else
(jn (fun (v13 : Int32) (s14 : PH) =>
(lt v13 fun (v16 : Int32) =>
(if v16 = (-9 : Int32) then
(some ((-9 : Int32), s14))
else
(jn (fun (v17 : Int32) (s18 : PH) =>
(lt v17 fun (v20 : Int32) =>
(j11 v20 s18))) (fun (j19 : Int32 → PH → Option (Int32 × PH)) =>
(if v16 ≤ v3 then
(j19 v3 s14)
else
(j19 v16 s14))))))) (fun (j15 : Int32 → PH → Option (Int32 × PH)) =>
(if a1 = 0 then
(bd (fX12_depthOf n v4 s7) fun (r22 : Int32) (s21 : PH) =>
(j15 r22 s21))
else
(bd (fX12_approximateOf n v4 s7) fun (r24 : Int32) (s23 : PH) =>
(j15 r24 s23))))))))))) n v1 v2 s0)))
set_option maxRecDepth 20000 in
set_option maxHeartbeats 2000000 in
theorem mX12_deepest (l : Launch) (n : Nat) (a1 : Int32) (s0 : PH) : Cti 174 l yX12_deepest cX12_deepest 5 (some .int) (rmOf 5 114) (fun E => [.ref (E.2.1 148), .int a1]) s0 (fX12_deepest n a1 s0) := by
  refine Cti.of (by decide) rfl (lv := fun E => [(0, .ref (E.2.1 148)), (1, .int a1)]) (fun _ => Nat.le_of_ble_eq_true rfl) (fun _ => rfl) (fun Γ hΓ _ C => ?_)
  subst hΓ
  unfold fX12_deepest
  refine rf_iconst C (v := (nI 0)) dX12_deepest_0 rfl ?_
  refine rf_istore_n C (fun v1 => [(2, .int v1), (0, .ref ((gE Γ).2.1 148)), (1, .int a1)]) dX12_deepest_1 rfl (by decide) (fun _ => rfl) (fun v1 => ?_)
  refine rf_iconst C (v := (nI 0)) dX12_deepest_2 rfl ?_
  refine rf_istore_n C (fun v2 => [(3, .int v2), (2, .int v1), (0, .ref ((gE Γ).2.1 148)), (1, .int a1)]) dX12_deepest_3 rfl (by decide) (fun _ => rfl) (fun v2 => ?_)
  refine rf_sub [2, 3, 1, 0] rfl ?_
  refine rf_loo3 (fun _ _ _ => True) (fun _ _ s5 => s5) (fun v3 v4 s5 => [(0, .ref ((gE Γ).2.1 148)), (1, .int a1), (2, .int v3), (3, .int v4)]) (fun recrec6 hrec6 v3 v4 s5 _ => ?_) n v1 v2 s0 trivial
  refine rf_iload_n C dX12_deepest_4 rfl 3 rfl ?_
  refine rf_bipush C (v := (nI 6)) dX12_deepest_5 rfl ?_
  refine rf_icmp_ge C 66 dX12_deepest_7 (by decide) (fun _ => ?_) (fun _ => ?_)
  · refine rf_iload_n C dX12_deepest_66 rfl 2 rfl ?_
    exact rf_iret C dX12_deepest_67
  refine rf_aload_n C dX12_deepest_10 rfl 0 rfl ?_
  refine rf_iload_n C dX12_deepest_11 rfl 3 rfl ?_
  refine rf_callVi C (rmc := rmOf 2 44) [.int v4] (by decide) (mX12_isDefined (gL Γ) n v4 s5) mfX12_isDefined mvX12_isDefined mlX12_217 rfl oX12 rfl rfl rfl (Nat.le_of_ble_eq_true rfl) ⟨Nat.le_of_ble_eq_true rfl, Nat.le_of_ble_eq_true rfl⟩ dX12_deepest_12 (fun r8 s7 => ?_)
  refine rf_jn2 (fun _ _ => True) (fun _ s10 => s10) (fun v9 s10 => [(0, .ref ((gE Γ).2.1 148)), (1, .int a1), (2, .int v9), (3, .int v4)]) (fun v9 s10 => []) 60 (fun v9 s10 _ => ?_) (fun j11 hj11 => ?_)
  · refine rf_iinc C (fun v12 => [(3, .int v12), (0, .ref ((gE Γ).2.1 148)), (1, .int a1), (2, .int v9)]) dX12_deepest_60 3 rfl rfl (by decide) (fun _ => rfl) (fun v12 => ?_)
    refine rf_goto C 4 dX12_deepest_63 (by decide) ?_
    exact rf_sub [1, 2, 3, 0] rfl (hrec6 v9 v12 s10 trivial)
  refine rf_if_eq C 60 dX12_deepest_15 (by decide) (fun _ => ?_) (fun _ => ?_)
  · exact rf_sub [0, 1, 2, 3] rfl (hj11 v3 s7 trivial)
  refine rf_iload_n C dX12_deepest_18 rfl 1 rfl ?_
  refine rf_jn2 (fun _ _ => True) (fun _ s14 => s14) (fun v13 s14 => [(0, .ref ((gE Γ).2.1 148)), (1, .int a1), (2, .int v3), (3, .int v4)]) (fun v13 s14 => [.int v13]) 35 (fun v13 s14 _ => ?_) (fun j15 hj15 => ?_)
  · refine rf_istore C (fun v16 => [(4, .int v16), (0, .ref ((gE Γ).2.1 148)), (1, .int a1), (2, .int v3), (3, .int v4)]) dX12_deepest_35 (by decide) (fun _ => rfl) (fun v16 => ?_)
    refine rf_iload C dX12_deepest_37 0 rfl ?_
    refine rf_bipush C (v := (-9 : Int32)) dX12_deepest_39 rfl ?_
    refine rf_icmp_ne C 47 dX12_deepest_41 (by decide) (fun _ => ?_) (fun _ => ?_)
    · refine rf_iload C dX12_deepest_47 0 rfl ?_
      refine rf_iload_n C dX12_deepest_49 rfl 3 rfl ?_
      refine rf_jn2 (fun _ _ => True) (fun _ s18 => s18) (fun v17 s18 => [(0, .ref ((gE Γ).2.1 148)), (1, .int a1), (3, .int v4)]) (fun v17 s18 => [.int v17]) 59 (fun v17 s18 _ => ?_) (fun j19 hj19 => ?_)
      · refine rf_istore_n C (fun v20 => [(2, .int v20), (0, .ref ((gE Γ).2.1 148)), (1, .int a1), (3, .int v4)]) dX12_deepest_59 rfl (by decide) (fun _ => rfl) (fun v20 => ?_)
        exact rf_sub [1, 2, 0, 3] rfl (hj11 v20 s18 trivial)
      refine rf_icmp_le C 58 dX12_deepest_50 (by decide) (fun _ => ?_) (fun _ => ?_)
      · refine rf_iload_n C dX12_deepest_58 rfl 3 rfl ?_
        exact rf_sub [1, 2, 4] rfl (hj19 v3 s14 trivial)
      refine rf_iload C dX12_deepest_53 0 rfl ?_
      refine rf_goto C 59 dX12_deepest_55 (by decide) ?_
      exact rf_sub [1, 2, 4] rfl (hj19 v16 s14 trivial)
    refine rf_bipush C (v := (-9 : Int32)) dX12_deepest_44 rfl ?_
    exact rf_iret C dX12_deepest_46
  refine rf_if_eq C 30 dX12_deepest_19 (by decide) (fun _ => ?_) (fun _ => ?_)
  · refine rf_aload_n C dX12_deepest_30 rfl 0 rfl ?_
    refine rf_iload_n C dX12_deepest_31 rfl 3 rfl ?_
    refine rf_callVi C (rmc := rmOf 3 71) [.int v4] (by decide) (mX12_depthOf (gL Γ) n v4 s7) mfX12_depthOf mvX12_depthOf mlX12_242 rfl oX12 rfl rfl rfl (Nat.le_of_ble_eq_true rfl) ⟨Nat.le_of_ble_eq_true rfl, Nat.le_of_ble_eq_true rfl⟩ dX12_deepest_32 (fun r22 s21 => ?_)
    exact rf_sub [0, 1, 2, 3] rfl (hj15 r22 s21 trivial)
  refine rf_aload_n C dX12_deepest_22 rfl 0 rfl ?_
  refine rf_iload_n C dX12_deepest_23 rfl 3 rfl ?_
  refine rf_callVi C (rmc := rmOf 4 89) [.int v4] (by decide) (mX12_approximateOf (gL Γ) n v4 s7) mfX12_approximateOf mvX12_approximateOf mlX12_248 rfl oX12 rfl rfl rfl (Nat.le_of_ble_eq_true rfl) ⟨Nat.le_of_ble_eq_true rfl, Nat.le_of_ble_eq_true rfl⟩ dX12_deepest_24 (fun r24 s23 => ?_)
  refine rf_goto C 35 dX12_deepest_27 (by decide) ?_
  exact rf_sub [0, 1, 2, 3] rfl (hj15 r24 s23 trivial)

def fX12_clash (n : Nat) (a1 : Int32) (a2 : Int32) (s0 : PH) : Option (Int32 × PH) :=
(bd (fX12_isDefined n a1 s0) fun (r2 : Int32) (s1 : PH) =>
(if r2 = 0 then
(some ((-1 : Int32), s1))
else
(bd (fX12_isDepth a2 s1) fun (r4 : Int32) (s3 : PH) =>
(if r4 = 0 then
(some ((-1 : Int32), s3))
else
(bd (fX12_pairOf n a1 a2 s3) fun (r6 : Int32) (s5 : PH) =>
(some (r6, s5)))))))
set_option maxRecDepth 20000 in
set_option maxHeartbeats 2000000 in
theorem mX12_clash (l : Launch) (n : Nat) (a1 : Int32) (a2 : Int32) (s0 : PH) : Cti 174 l yX12_clash cX12_clash 3 (some .int) (rmOf 3 71) (fun E => [.ref (E.2.1 148), .int a1, .int a2]) s0 (fX12_clash n a1 a2 s0) := by
  refine Cti.of (by decide) rfl (lv := fun E => [(0, .ref (E.2.1 148)), (1, .int a1), (2, .int a2)]) (fun _ => Nat.le_of_ble_eq_true rfl) (fun _ => rfl) (fun Γ hΓ _ C => ?_)
  subst hΓ
  unfold fX12_clash
  refine rf_aload_n C dX12_clash_0 rfl 0 rfl ?_
  refine rf_iload_n C dX12_clash_1 rfl 1 rfl ?_
  refine rf_callVi C (rmc := rmOf 2 44) [.int a1] (by decide) (mX12_isDefined (gL Γ) n a1 s0) mfX12_isDefined mvX12_isDefined mlX12_217 rfl oX12 rfl rfl rfl (Nat.le_of_ble_eq_true rfl) ⟨Nat.le_of_ble_eq_true rfl, Nat.le_of_ble_eq_true rfl⟩ dX12_clash_2 (fun r2 s1 => ?_)
  refine rf_if_eq C 24 dX12_clash_5 (by decide) (fun _ => ?_) (fun _ => ?_)
  · refine rf_iconst C (v := (-1 : Int32)) dX12_clash_24 rfl ?_
    exact rf_iret C dX12_clash_25
  refine rf_iload_n C dX12_clash_8 rfl 2 rfl ?_
  refine rf_callSi C (rmc := rmOf 1 22) [.int a2] (by decide) (mX12_isDepth (gL Γ) a2 s1) mfX12_isDepth msX12_isDepth mlX12_223 rfl rfl rfl (Nat.le_of_ble_eq_true rfl) ⟨Nat.le_of_ble_eq_true rfl, Nat.le_of_ble_eq_true rfl⟩ dX12_clash_9 (fun r4 s3 => ?_)
  refine rf_if_eq C 24 dX12_clash_12 (by decide) (fun _ => ?_) (fun _ => ?_)
  · refine rf_iconst C (v := (-1 : Int32)) dX12_clash_24 rfl ?_
    exact rf_iret C dX12_clash_25
  refine rf_aload_n C dX12_clash_15 rfl 0 rfl ?_
  refine rf_iload_n C dX12_clash_16 rfl 1 rfl ?_
  refine rf_iload_n C dX12_clash_17 rfl 2 rfl ?_
  refine rf_callVi C (rmc := rmOf 2 47) [.int a1, .int a2] (by decide) (mX12_pairOf (gL Γ) n a1 a2 s3) mfX12_pairOf mvX12_pairOf mlX12_239 rfl oX12 rfl rfl rfl (Nat.le_of_ble_eq_true rfl) ⟨Nat.le_of_ble_eq_true rfl, Nat.le_of_ble_eq_true rfl⟩ dX12_clash_18 (fun r6 s5 => ?_)
  refine rf_goto C 25 dX12_clash_21 (by decide) ?_
  exact rf_iret C dX12_clash_25

def fX12_clashWord (n : Nat) (a1 : Int32) (a2 : Int32) (a3 : Int32) (s0 : PH) : Option (Int32 × PH) :=
(bd (fX12_isProduction a1 s0) fun (r2 : Int32) (s1 : PH) =>
(if r2 = 0 then
(some ((-1 : Int32), s1))
else
(bd (fX12_isProduction a2 s1) fun (r4 : Int32) (s3 : PH) =>
(if r4 = 0 then
(some ((-1 : Int32), s3))
else
(bd (fX12_isDepth a3 s3) fun (r6 : Int32) (s5 : PH) =>
(if r6 = 0 then
(some ((-1 : Int32), s5))
else
(bd (fX12_clashOf n a1 a2 a3 s5) fun (r8 : Int32) (s7 : PH) =>
(some (r8, s7)))))))))
set_option maxRecDepth 20000 in
set_option maxHeartbeats 2000000 in
theorem mX12_clashWord (l : Launch) (n : Nat) (a1 : Int32) (a2 : Int32) (a3 : Int32) (s0 : PH) : Cti 174 l yX12_clashWord cX12_clashWord 4 (some .int) (rmOf 2 47) (fun E => [.ref (E.2.1 148), .int a1, .int a2, .int a3]) s0 (fX12_clashWord n a1 a2 a3 s0) := by
  refine Cti.of (by decide) rfl (lv := fun E => [(0, .ref (E.2.1 148)), (1, .int a1), (2, .int a2), (3, .int a3)]) (fun _ => Nat.le_of_ble_eq_true rfl) (fun _ => rfl) (fun Γ hΓ _ C => ?_)
  subst hΓ
  unfold fX12_clashWord
  refine rf_aload_n C dX12_clashWord_0 rfl 0 rfl ?_
  refine rf_iload_n C dX12_clashWord_1 rfl 1 rfl ?_
  refine rf_callVi C (rmc := rmOf 1 22) [.int a1] (by decide) (mX12_isProduction (gL Γ) a1 s0) mfX12_isProduction mvX12_isProduction mlX12_214 rfl oX12 rfl rfl rfl (Nat.le_of_ble_eq_true rfl) ⟨Nat.le_of_ble_eq_true rfl, Nat.le_of_ble_eq_true rfl⟩ dX12_clashWord_2 (fun r2 s1 => ?_)
  refine rf_if_eq C 33 dX12_clashWord_5 (by decide) (fun _ => ?_) (fun _ => ?_)
  · refine rf_iconst C (v := (-1 : Int32)) dX12_clashWord_33 rfl ?_
    exact rf_iret C dX12_clashWord_34
  refine rf_aload_n C dX12_clashWord_8 rfl 0 rfl ?_
  refine rf_iload_n C dX12_clashWord_9 rfl 2 rfl ?_
  refine rf_callVi C (rmc := rmOf 1 22) [.int a2] (by decide) (mX12_isProduction (gL Γ) a2 s1) mfX12_isProduction mvX12_isProduction mlX12_214 rfl oX12 rfl rfl rfl (Nat.le_of_ble_eq_true rfl) ⟨Nat.le_of_ble_eq_true rfl, Nat.le_of_ble_eq_true rfl⟩ dX12_clashWord_10 (fun r4 s3 => ?_)
  refine rf_if_eq C 33 dX12_clashWord_13 (by decide) (fun _ => ?_) (fun _ => ?_)
  · refine rf_iconst C (v := (-1 : Int32)) dX12_clashWord_33 rfl ?_
    exact rf_iret C dX12_clashWord_34
  refine rf_iload_n C dX12_clashWord_16 rfl 3 rfl ?_
  refine rf_callSi C (rmc := rmOf 1 22) [.int a3] (by decide) (mX12_isDepth (gL Γ) a3 s3) mfX12_isDepth msX12_isDepth mlX12_223 rfl rfl rfl (Nat.le_of_ble_eq_true rfl) ⟨Nat.le_of_ble_eq_true rfl, Nat.le_of_ble_eq_true rfl⟩ dX12_clashWord_17 (fun r6 s5 => ?_)
  refine rf_if_eq C 33 dX12_clashWord_20 (by decide) (fun _ => ?_) (fun _ => ?_)
  · refine rf_iconst C (v := (-1 : Int32)) dX12_clashWord_33 rfl ?_
    exact rf_iret C dX12_clashWord_34
  refine rf_aload_n C dX12_clashWord_23 rfl 0 rfl ?_
  refine rf_iload_n C dX12_clashWord_24 rfl 1 rfl ?_
  refine rf_iload_n C dX12_clashWord_25 rfl 2 rfl ?_
  refine rf_iload_n C dX12_clashWord_26 rfl 3 rfl ?_
  refine rf_callVi C (rmc := rmOf 1 23) [.int a1, .int a2, .int a3] (by decide) (mX12_clashOf (gL Γ) n a1 a2 a3 s5) mfX12_clashOf mvX12_clashOf mlX12_235 rfl oX12 rfl rfl rfl (Nat.le_of_ble_eq_true rfl) ⟨Nat.le_of_ble_eq_true rfl, Nat.le_of_ble_eq_true rfl⟩ dX12_clashWord_27 (fun r8 s7 => ?_)
  refine rf_goto C 34 dX12_clashWord_30 (by decide) ?_
  exact rf_iret C dX12_clashWord_34

def fX12_someReached (n : Nat) (a1 a1n : Nat) (s0 : PH) : Option (Int32 × PH) :=
(lt (nI 0) fun (v1 : Int32) =>
(lt (nI 0) fun (v2 : Int32) =>
(loo3 (fun (recrec6 : Int32 → Int32 → PH → Option (Int32 × PH)) (v3 : Int32) (v4 : Int32) (s5 : PH) =>
(if (nI 6) ≤ v4 then
(rz v3 s5)
else
(jn (fun (v7 : Int32) (s8 : PH) =>
(lt v7 fun (v10 : Int32) =>
(lt (v4 + (nI 1)) fun (v11 : Int32) =>
(recrec6 v10 v11 s8)))) (fun (j9 : Int32 → PH → Option (Int32 × PH)) =>
(jn (fun (s12 : PH) =>
(j9 (nI 1) s12)) (fun (j13 : PH → Option (Int32 × PH)) =>
(if v3 = 0 then
(ra 6 v4 (s5.1 155) fun (v14 : Int32) =>
(jn (fun (s15 : PH) =>
(j9 (nI 0) s15)) (fun (j16 : PH → Option (Int32 × PH)) =>
(if v14 = 0 then
(j16 s5)
else
(ra a1n (((nI 6) * v4) + v4) (s5.1 a1) fun (v17 : Int32) =>
(if v17 = 0 then
(j16 s5)
else
(j13 s5)))))))
else
(j13 s5)))))))) n v1 v2 s0)))
set_option maxRecDepth 20000 in
set_option maxHeartbeats 2000000 in
theorem mX12_someReached (l : Launch) (n : Nat) (a1 a1n : Nat) (s0 : PH) (ha1 : isZ 174 a1 a1n) : Cti 174 l yX12_someReached cX12_someReached 4 (some .boolean) (rmOf 0 0) (fun E => [.ref (E.2.1 148), .ref (E.2.1 a1)]) s0 (fX12_someReached n a1 a1n s0) := by
  refine Cti.of (by decide) rfl (lv := fun E => [(0, .ref (E.2.1 148)), (1, .ref (E.2.1 a1))]) (fun _ => Nat.le_of_ble_eq_true rfl) (fun _ => rfl) (fun Γ hΓ _ C => ?_)
  subst hΓ
  unfold fX12_someReached
  refine rf_iconst C (v := (nI 0)) dX12_someReached_0 rfl ?_
  refine rf_istore_n C (fun v1 => [(2, .int v1), (0, .ref ((gE Γ).2.1 148)), (1, .ref ((gE Γ).2.1 a1))]) dX12_someReached_1 rfl (by decide) (fun _ => rfl) (fun v1 => ?_)
  refine rf_iconst C (v := (nI 0)) dX12_someReached_2 rfl ?_
  refine rf_istore_n C (fun v2 => [(3, .int v2), (2, .int v1), (0, .ref ((gE Γ).2.1 148)), (1, .ref ((gE Γ).2.1 a1))]) dX12_someReached_3 rfl (by decide) (fun _ => rfl) (fun v2 => ?_)
  refine rf_sub [2, 3, 1, 0] rfl ?_
  refine rf_loo3 (fun _ _ _ => True) (fun _ _ s5 => s5) (fun v3 v4 s5 => [(0, .ref ((gE Γ).2.1 148)), (1, .ref ((gE Γ).2.1 a1)), (2, .int v3), (3, .int v4)]) (fun recrec6 hrec6 v3 v4 s5 _ => ?_) n v1 v2 s0 trivial
  refine rf_iload_n C dX12_someReached_4 rfl 3 rfl ?_
  refine rf_bipush C (v := (nI 6)) dX12_someReached_5 rfl ?_
  refine rf_icmp_ge C 46 dX12_someReached_7 (by decide) (fun _ => ?_) (fun _ => ?_)
  · refine rf_iload_n C dX12_someReached_46 rfl 2 rfl ?_
    exact rf_zretv C dX12_someReached_47
  refine rf_iload_n C dX12_someReached_10 rfl 2 rfl ?_
  refine rf_jn2 (fun _ _ => True) (fun _ s8 => s8) (fun v7 s8 => [(0, .ref ((gE Γ).2.1 148)), (1, .ref ((gE Γ).2.1 a1)), (3, .int v4)]) (fun v7 s8 => [.int v7]) 39 (fun v7 s8 _ => ?_) (fun j9 hj9 => ?_)
  · refine rf_istore_n C (fun v10 => [(2, .int v10), (0, .ref ((gE Γ).2.1 148)), (1, .ref ((gE Γ).2.1 a1)), (3, .int v4)]) dX12_someReached_39 rfl (by decide) (fun _ => rfl) (fun v10 => ?_)
    refine rf_iinc C (fun v11 => [(3, .int v11), (2, .int v10), (0, .ref ((gE Γ).2.1 148)), (1, .ref ((gE Γ).2.1 a1))]) dX12_someReached_40 3 rfl rfl (by decide) (fun _ => rfl) (fun v11 => ?_)
    refine rf_goto C 4 dX12_someReached_43 (by decide) ?_
    exact rf_sub [2, 3, 1, 0] rfl (hrec6 v10 v11 s8 trivial)
  refine rf_jn1 (fun _ => True) (fun  s12 => s12) (fun s12 => [(0, .ref ((gE Γ).2.1 148)), (1, .ref ((gE Γ).2.1 a1)), (3, .int v4)]) (fun s12 => []) 34 (fun s12 _ => ?_) (fun j13 hj13 => ?_)
  · refine rf_iconst C (v := (nI 1)) dX12_someReached_34 rfl ?_
    refine rf_goto C 39 dX12_someReached_35 (by decide) ?_
    exact rf_sub [0, 1, 2] rfl (hj9 (nI 1) s12 trivial)
  refine rf_if_ne C 34 dX12_someReached_11 (by decide) (fun _ => ?_) (fun _ => ?_)
  · exact rf_sub [0, 1, 3] rfl (hj13 s5 trivial)
  refine rf_aload_n C dX12_someReached_14 rfl 0 rfl ?_
  refine rf_get C (v := .ref ((gE Γ).2.1 155)) cfX12 flX12_33 (by decide) oX12 rfl dX12_someReached_15 ?_
  refine rf_iload_n C dX12_someReached_18 rfl 3 rfl ?_
  refine rf_zald C ar155 dX12_someReached_19 (fun v14 => ?_)
  refine rf_jn1 (fun _ => True) (fun  s15 => s15) (fun s15 => [(0, .ref ((gE Γ).2.1 148)), (1, .ref ((gE Γ).2.1 a1)), (3, .int v4)]) (fun s15 => []) 38 (fun s15 _ => ?_) (fun j16 hj16 => ?_)
  · refine rf_iconst C (v := (nI 0)) dX12_someReached_38 rfl ?_
    exact rf_sub [0, 1, 2] rfl (hj9 (nI 0) s15 trivial)
  refine rf_if_eq C 38 dX12_someReached_20 (by decide) (fun _ => ?_) (fun _ => ?_)
  · exact rf_sub [0, 1, 3] rfl (hj16 s5 trivial)
  refine rf_aload_n C dX12_someReached_23 rfl 1 rfl ?_
  refine rf_bipush C (v := (nI 6)) dX12_someReached_24 rfl ?_
  refine rf_iload_n C dX12_someReached_26 rfl 3 rfl ?_
  refine rf_imul C dX12_someReached_27 ?_
  refine rf_iload_n C dX12_someReached_28 rfl 3 rfl ?_
  refine rf_iadd C dX12_someReached_29 ?_
  refine rf_zald C ha1 dX12_someReached_30 (fun v17 => ?_)
  refine rf_if_eq C 38 dX12_someReached_31 (by decide) (fun _ => ?_) (fun _ => ?_)
  · exact rf_sub [0, 1, 3] rfl (hj16 s5 trivial)
  exact rf_sub [0, 1, 3] rfl (hj13 s5 trivial)

def fX12_laysInput (n : Nat) (s0 : PH) : Option (Int32 × PH) :=
(lt (si s0 148 24 (nI 0)) fun (s1 : PH) =>
(lt (nI 0) fun (v2 : Int32) =>
(loo2 (fun (recrec5 : Int32 → PH → Option (Int32 × PH)) (v3 : Int32) (s4 : PH) =>
(if (s4.1 148 4) ≤ v3 then
(some ((-9 : Int32), s4))
else
(ra 100 v3 (s4.1 151) fun (v6 : Int32) =>
(bd (fX12_in v6 (nI 97) (nI 101) s4) fun (r8 : Int32) (s7 : PH) =>
(if r8 = 0 then
(some (v3, s7))
else
(if v3 = (nI 8) then
(some (v3, s7))
else
(ra 100 v3 (s7.1 151) fun (v9 : Int32) =>
(wa 8 v3 (lt (si s7 166 v3.toNatClampNeg (v9 - (nI 97))) fun (s10 : PH) =>
(lt (si s10 148 24 ((s10.1 148 24) + (nI 1))) fun (s11 : PH) =>
(lt (v3 + (nI 1)) fun (v12 : Int32) =>
(recrec5 v12 s11)))))))))))) n v2 s1)))
set_option maxRecDepth 20000 in
set_option maxHeartbeats 2000000 in
theorem mX12_laysInput (l : Launch) (n : Nat) (s0 : PH) : Cti 174 l yX12_laysInput cX12_laysInput 2 (some .int) (rmOf 1 22) (fun E => [.ref (E.2.1 148)]) s0 (fX12_laysInput n s0) := by
  refine Cti.of (by decide) rfl (lv := fun E => [(0, .ref (E.2.1 148))]) (fun _ => Nat.le_of_ble_eq_true rfl) (fun _ => rfl) (fun Γ hΓ _ C => ?_)
  subst hΓ
  unfold fX12_laysInput
  refine rf_aload_n C dX12_laysInput_0 rfl 0 rfl ?_
  refine rf_iconst C (v := (nI 0)) dX12_laysInput_1 rfl ?_
  refine rf_puti C cfX12 flX12_251 (by decide) rfl oX12 (fty := .int) rfl rfl rfl (fun _ _ _ _ => Nat.le_of_ble_eq_true rfl) (fun _ _ _ _ => rfl) dX12_laysInput_2 (fun s1 => ?_)
  refine rf_iconst C (v := (nI 0)) dX12_laysInput_5 rfl ?_
  refine rf_istore_n C (fun v2 => [(1, .int v2), (0, .ref ((gE Γ).2.1 148))]) dX12_laysInput_6 rfl (by decide) (fun _ => rfl) (fun v2 => ?_)
  refine rf_sub [1, 0] rfl ?_
  refine rf_loo2 (fun _ _ => True) (fun _ s4 => s4) (fun v3 s4 => [(0, .ref ((gE Γ).2.1 148)), (1, .int v3)]) (fun recrec5 hrec5 v3 s4 _ => ?_) n v2 s1 trivial
  refine rf_iload_n C dX12_laysInput_7 rfl 1 rfl ?_
  refine rf_aload_n C dX12_laysInput_8 rfl 0 rfl ?_
  refine rf_get C (v := .int (s4.1 148 4)) cfX12 flX12_185 (by decide) oX12 rfl dX12_laysInput_9 ?_
  refine rf_icmp_ge C 70 dX12_laysInput_12 (by decide) (fun _ => ?_) (fun _ => ?_)
  · refine rf_bipush C (v := (-9 : Int32)) dX12_laysInput_70 rfl ?_
    exact rf_iret C dX12_laysInput_72
  refine rf_aload_n C dX12_laysInput_15 rfl 0 rfl ?_
  refine rf_get C (v := .ref ((gE Γ).2.1 151)) cfX12 flX12_16 (by decide) oX12 rfl dX12_laysInput_16 ?_
  refine rf_iload_n C dX12_laysInput_19 rfl 1 rfl ?_
  refine rf_iald C ar151 dX12_laysInput_20 (fun v6 => ?_)
  refine rf_bipush C (v := (nI 97)) dX12_laysInput_21 rfl ?_
  refine rf_bipush C (v := (nI 101)) dX12_laysInput_23 rfl ?_
  refine rf_callSi C (rmc := rmOf 0 0) [.int v6, .int (nI 97), .int (nI 101)] (by decide) (mX12_in (gL Γ) v6 (nI 97) (nI 101) s4) mfX12_in msX12_in mlX12_98 rfl rfl rfl (Nat.le_of_ble_eq_true rfl) ⟨Nat.le_of_ble_eq_true rfl, Nat.le_of_ble_eq_true rfl⟩ dX12_laysInput_25 (fun r8 s7 => ?_)
  refine rf_if_eq C 37 dX12_laysInput_28 (by decide) (fun _ => ?_) (fun _ => ?_)
  · refine rf_iload_n C dX12_laysInput_37 rfl 1 rfl ?_
    exact rf_iret C dX12_laysInput_38
  refine rf_iload_n C dX12_laysInput_31 rfl 1 rfl ?_
  refine rf_bipush C (v := (nI 8)) dX12_laysInput_32 rfl ?_
  refine rf_icmp_ne C 39 dX12_laysInput_34 (by decide) (fun _ => ?_) (fun _ => ?_)
  · refine rf_aload_n C dX12_laysInput_39 rfl 0 rfl ?_
    refine rf_get C (v := .ref ((gE Γ).2.1 166)) cfX12 flX12_66 (by decide) oX12 rfl dX12_laysInput_40 ?_
    refine rf_iload_n C dX12_laysInput_43 rfl 1 rfl ?_
    refine rf_aload_n C dX12_laysInput_44 rfl 0 rfl ?_
    refine rf_get C (v := .ref ((gE Γ).2.1 151)) cfX12 flX12_16 (by decide) oX12 rfl dX12_laysInput_45 ?_
    refine rf_iload_n C dX12_laysInput_48 rfl 1 rfl ?_
    refine rf_iald C ar151 dX12_laysInput_49 (fun v9 => ?_)
    refine rf_bipush C (v := (nI 97)) dX12_laysInput_50 rfl ?_
    refine rf_isub C dX12_laysInput_52 ?_
    refine rf_iast C ar166 dX12_laysInput_53 (fun s10 => ?_)
    refine rf_aload_n C dX12_laysInput_54 rfl 0 rfl ?_
    refine rf_dup C dX12_laysInput_55 rfl ?_
    refine rf_get C (v := .int (s10.1 148 24)) cfX12 flX12_251 (by decide) oX12 rfl dX12_laysInput_56 ?_
    refine rf_iconst C (v := (nI 1)) dX12_laysInput_59 rfl ?_
    refine rf_iadd C dX12_laysInput_60 ?_
    refine rf_puti C cfX12 flX12_251 (by decide) rfl oX12 (fty := .int) rfl rfl rfl (fun _ _ _ _ => Nat.le_of_ble_eq_true rfl) (fun _ _ _ _ => rfl) dX12_laysInput_61 (fun s11 => ?_)
    refine rf_iinc C (fun v12 => [(1, .int v12), (0, .ref ((gE Γ).2.1 148))]) dX12_laysInput_64 1 rfl rfl (by decide) (fun _ => rfl) (fun v12 => ?_)
    refine rf_goto C 7 dX12_laysInput_67 (by decide) ?_
    exact rf_sub [1, 0] rfl (hrec5 v12 s11 trivial)
  refine rf_iload_n C dX12_laysInput_37 rfl 1 rfl ?_
  exact rf_iret C dX12_laysInput_38

def fX12_restBy (n : Nat) (a1 : Int32) (a2 : Int32) (s0 : PH) : Option (Int32 × PH) :=
(lt (nI 0) fun (v1 : Int32) =>
(lt a1 fun (v2 : Int32) =>
(loo3 (fun (recrec6 : Int32 → Int32 → PH → Option (Int32 × PH)) (v3 : Int32) (v4 : Int32) (s5 : PH) =>
(if (s5.1 148 24) ≤ v4 then
(some (v3, s5))
else
(if (a1 + a2) ≤ v4 then
(some (v3, s5))
else
(ra 8 v4 (s5.1 166) fun (v7 : Int32) =>
(lt ((((nI 6) * v3) + v7) + (nI 1)) fun (v8 : Int32) =>
(lt (v4 + (nI 1)) fun (v9 : Int32) =>
(recrec6 v8 v9 s5))))))) n v1 v2 s0)))
set_option maxRecDepth 20000 in
set_option maxHeartbeats 2000000 in
theorem mX12_restBy (l : Launch) (n : Nat) (a1 : Int32) (a2 : Int32) (s0 : PH) : Cti 174 l yX12_restBy cX12_restBy 5 (some .int) (rmOf 0 0) (fun E => [.ref (E.2.1 148), .int a1, .int a2]) s0 (fX12_restBy n a1 a2 s0) := by
  refine Cti.of (by decide) rfl (lv := fun E => [(0, .ref (E.2.1 148)), (1, .int a1), (2, .int a2)]) (fun _ => Nat.le_of_ble_eq_true rfl) (fun _ => rfl) (fun Γ hΓ _ C => ?_)
  subst hΓ
  unfold fX12_restBy
  refine rf_iconst C (v := (nI 0)) dX12_restBy_0 rfl ?_
  refine rf_istore_n C (fun v1 => [(3, .int v1), (0, .ref ((gE Γ).2.1 148)), (1, .int a1), (2, .int a2)]) dX12_restBy_1 rfl (by decide) (fun _ => rfl) (fun v1 => ?_)
  refine rf_iload_n C dX12_restBy_2 rfl 2 rfl ?_
  refine rf_istore C (fun v2 => [(4, .int v2), (3, .int v1), (0, .ref ((gE Γ).2.1 148)), (1, .int a1), (2, .int a2)]) dX12_restBy_3 (by decide) (fun _ => rfl) (fun v2 => ?_)
  refine rf_sub [2, 3, 4, 1, 0] rfl ?_
  refine rf_loo3 (fun _ _ _ => True) (fun _ _ s5 => s5) (fun v3 v4 s5 => [(0, .ref ((gE Γ).2.1 148)), (1, .int a1), (2, .int a2), (3, .int v3), (4, .int v4)]) (fun recrec6 hrec6 v3 v4 s5 _ => ?_) n v1 v2 s0 trivial
  refine rf_iload C dX12_restBy_5 4 rfl ?_
  refine rf_aload_n C dX12_restBy_7 rfl 0 rfl ?_
  refine rf_get C (v := .int (s5.1 148 24)) cfX12 flX12_251 (by decide) oX12 rfl dX12_restBy_8 ?_
  refine rf_icmp_ge C 43 dX12_restBy_11 (by decide) (fun _ => ?_) (fun _ => ?_)
  · refine rf_iload_n C dX12_restBy_43 rfl 3 rfl ?_
    exact rf_iret C dX12_restBy_44
  refine rf_iload C dX12_restBy_14 4 rfl ?_
  refine rf_iload_n C dX12_restBy_16 rfl 1 rfl ?_
  refine rf_iload_n C dX12_restBy_17 rfl 2 rfl ?_
  refine rf_iadd C dX12_restBy_18 ?_
  refine rf_icmp_ge C 43 dX12_restBy_19 (by decide) (fun _ => ?_) (fun _ => ?_)
  · refine rf_iload_n C dX12_restBy_43 rfl 3 rfl ?_
    exact rf_iret C dX12_restBy_44
  refine rf_bipush C (v := (nI 6)) dX12_restBy_22 rfl ?_
  refine rf_iload_n C dX12_restBy_24 rfl 3 rfl ?_
  refine rf_imul C dX12_restBy_25 ?_
  refine rf_aload_n C dX12_restBy_26 rfl 0 rfl ?_
  refine rf_get C (v := .ref ((gE Γ).2.1 166)) cfX12 flX12_66 (by decide) oX12 rfl dX12_restBy_27 ?_
  refine rf_iload C dX12_restBy_30 4 rfl ?_
  refine rf_iald C ar166 dX12_restBy_32 (fun v7 => ?_)
  refine rf_iadd C dX12_restBy_33 ?_
  refine rf_iconst C (v := (nI 1)) dX12_restBy_34 rfl ?_
  refine rf_iadd C dX12_restBy_35 ?_
  refine rf_istore_n C (fun v8 => [(3, .int v8), (0, .ref ((gE Γ).2.1 148)), (1, .int a1), (2, .int a2), (4, .int v4)]) dX12_restBy_36 rfl (by decide) (fun _ => rfl) (fun v8 => ?_)
  refine rf_iinc C (fun v9 => [(4, .int v9), (3, .int v8), (0, .ref ((gE Γ).2.1 148)), (1, .int a1), (2, .int a2)]) dX12_restBy_37 4 rfl rfl (by decide) (fun _ => rfl) (fun v9 => ?_)
  refine rf_goto C 5 dX12_restBy_40 (by decide) ?_
  exact rf_sub [2, 3, 4, 1, 0] rfl (hrec6 v8 v9 s5 trivial)

def fX12_choose (n : Nat) (a1 : Int32) (a2 : Int32) (s0 : PH) : Option (Int32 × PH) :=
(bd (fX12_depthOf n a1 s0) fun (r2 : Int32) (s1 : PH) =>
(lt r2 fun (v3 : Int32) =>
(bd (fX12_restBy n a2 v3 s1) fun (r5 : Int32) (s4 : PH) =>
(lt r5 fun (v6 : Int32) =>
(lt (nI 0) fun (v7 : Int32) =>
(loo2 (fun (recrec10 : Int32 → PH → Option (Int32 × PH)) (v8 : Int32) (s9 : PH) =>
(bd (fX12_many s9) fun (r12 : Int32) (s11 : PH) =>
(if r12 ≤ v8 then
(some ((-9 : Int32), s11))
else
(bd (fX12_left v8 s11) fun (r14 : Int32) (s13 : PH) =>
(jn (fun (s15 : PH) =>
(lt (v8 + (nI 1)) fun (v17 : Int32) =>
(recrec10 v17 s15))) (fun (j16 : PH → Option (Int32 × PH)) =>
(if r14 = a1 then
(bd (fX12_has ((nI 2592) + ((nI 216) * v8)) v3 v6 s13) fun (r19 : Int32) (s18 : PH) =>
(if r19 = 0 then
(j16 s18)
else
(some (v8, s18))))
else
(j16 s13)))))))) n v7 s4))))))
set_option maxRecDepth 20000 in
set_option maxHeartbeats 2000000 in
theorem mX12_choose (l : Launch) (n : Nat) (a1 : Int32) (a2 : Int32) (s0 : PH) : Cti 174 l yX12_choose cX12_choose 6 (some .int) (rmOf 4 93) (fun E => [.ref (E.2.1 148), .int a1, .int a2]) s0 (fX12_choose n a1 a2 s0) := by
  refine Cti.of (by decide) rfl (lv := fun E => [(0, .ref (E.2.1 148)), (1, .int a1), (2, .int a2)]) (fun _ => Nat.le_of_ble_eq_true rfl) (fun _ => rfl) (fun Γ hΓ _ C => ?_)
  subst hΓ
  unfold fX12_choose
  refine rf_aload_n C dX12_choose_0 rfl 0 rfl ?_
  refine rf_iload_n C dX12_choose_1 rfl 1 rfl ?_
  refine rf_callVi C (rmc := rmOf 3 71) [.int a1] (by decide) (mX12_depthOf (gL Γ) n a1 s0) mfX12_depthOf mvX12_depthOf mlX12_242 rfl oX12 rfl rfl rfl (Nat.le_of_ble_eq_true rfl) ⟨Nat.le_of_ble_eq_true rfl, Nat.le_of_ble_eq_true rfl⟩ dX12_choose_2 (fun r2 s1 => ?_)
  refine rf_istore_n C (fun v3 => [(3, .int v3), (0, .ref ((gE Γ).2.1 148)), (1, .int a1), (2, .int a2)]) dX12_choose_5 rfl (by decide) (fun _ => rfl) (fun v3 => ?_)
  refine rf_aload_n C dX12_choose_6 rfl 1 rfl ?_
  refine rf_iload_n C dX12_choose_7 rfl 3 rfl ?_
  refine rf_iload_n C dX12_choose_8 rfl 0 rfl ?_
  refine rf_callVi C (rmc := rmOf 0 0) [.int a2, .int v3] (by decide) (mX12_restBy (gL Γ) n a2 v3 s1) mfX12_restBy mvX12_restBy mlX12_254 rfl oX12 rfl rfl rfl (Nat.le_of_ble_eq_true rfl) ⟨Nat.le_of_ble_eq_true rfl, Nat.le_of_ble_eq_true rfl⟩ dX12_choose_9 (fun r5 s4 => ?_)
  refine rf_istore C (fun v6 => [(4, .int v6), (3, .int v3), (0, .ref ((gE Γ).2.1 148)), (1, .int a1), (2, .int a2)]) dX12_choose_12 (by decide) (fun _ => rfl) (fun v6 => ?_)
  refine rf_iconst C (v := (nI 0)) dX12_choose_14 rfl ?_
  refine rf_istore C (fun v7 => [(5, .int v7), (4, .int v6), (3, .int v3), (0, .ref ((gE Γ).2.1 148)), (1, .int a1), (2, .int a2)]) dX12_choose_15 (by decide) (fun _ => rfl) (fun v7 => ?_)
  refine rf_sub [3, 4, 2, 1, 0] rfl ?_
  refine rf_loo2 (fun _ _ => True) (fun _ s9 => s9) (fun v8 s9 => [(0, .ref ((gE Γ).2.1 148)), (1, .int a1), (3, .int v3), (4, .int v6), (5, .int v8)]) (fun recrec10 hrec10 v8 s9 _ => ?_) n v7 s4 trivial
  refine rf_iload C dX12_choose_17 4 rfl ?_
  refine rf_aload_n C dX12_choose_19 rfl 0 rfl ?_
  refine rf_callVi C (rmc := rmOf 0 0) [] (by decide) (mX12_many (gL Γ) s9) mfX12_many mvX12_many mlX12_94 rfl oX12 rfl rfl rfl (Nat.le_of_ble_eq_true rfl) ⟨Nat.le_of_ble_eq_true rfl, Nat.le_of_ble_eq_true rfl⟩ dX12_choose_20 (fun r12 s11 => ?_)
  refine rf_icmp_ge C 65 dX12_choose_23 (by decide) (fun _ => ?_) (fun _ => ?_)
  · refine rf_bipush C (v := (-9 : Int32)) dX12_choose_65 rfl ?_
    exact rf_iret C dX12_choose_67
  refine rf_aload_n C dX12_choose_26 rfl 0 rfl ?_
  refine rf_iload C dX12_choose_27 4 rfl ?_
  refine rf_callVi C (rmc := rmOf 0 0) [.int v8] (by decide) (mX12_left (gL Γ) v8 s11) mfX12_left mvX12_left mlX12_102 rfl oX12 rfl rfl rfl (Nat.le_of_ble_eq_true rfl) ⟨Nat.le_of_ble_eq_true rfl, Nat.le_of_ble_eq_true rfl⟩ dX12_choose_29 (fun r14 s13 => ?_)
  refine rf_iload_n C dX12_choose_32 rfl 1 rfl ?_
  refine rf_jn1 (fun _ => True) (fun  s15 => s15) (fun s15 => [(0, .ref ((gE Γ).2.1 148)), (1, .int a1), (3, .int v3), (4, .int v6), (5, .int v8)]) (fun s15 => []) 59 (fun s15 _ => ?_) (fun j16 hj16 => ?_)
  · refine rf_iinc C (fun v17 => [(5, .int v17), (0, .ref ((gE Γ).2.1 148)), (1, .int a1), (3, .int v3), (4, .int v6)]) dX12_choose_59 4 rfl rfl (by decide) (fun _ => rfl) (fun v17 => ?_)
    refine rf_goto C 17 dX12_choose_62 (by decide) ?_
    exact rf_sub [1, 2, 3, 4, 0] rfl (hrec10 v17 s15 trivial)
  refine rf_icmp_ne C 59 dX12_choose_33 (by decide) (fun _ => ?_) (fun _ => ?_)
  · exact rf_sub [0, 1, 2, 3, 4] rfl (hj16 s13 trivial)
  refine rf_aload_n C dX12_choose_36 rfl 0 rfl ?_
  refine rf_sipush C (v := (nI 2592)) dX12_choose_37 rfl ?_
  refine rf_sipush C (v := (nI 216)) dX12_choose_40 rfl ?_
  refine rf_iload C dX12_choose_43 4 rfl ?_
  refine rf_imul C dX12_choose_45 ?_
  refine rf_iadd C dX12_choose_46 ?_
  refine rf_iload_n C dX12_choose_47 rfl 2 rfl ?_
  refine rf_iload C dX12_choose_48 3 rfl ?_
  refine rf_callVi C (rmc := rmOf 0 0) [.int ((nI 2592) + ((nI 216) * v8)), .int v3, .int v6] (by decide) (mX12_has (gL Γ) ((nI 2592) + ((nI 216) * v8)) v3 v6 s13) mfX12_has mvX12_has mlX12_182 rfl oX12 rfl rfl rfl (Nat.le_of_ble_eq_true rfl) ⟨Nat.le_of_ble_eq_true rfl, Nat.le_of_ble_eq_true rfl⟩ dX12_choose_50 (fun r19 s18 => ?_)
  refine rf_if_eq C 59 dX12_choose_53 (by decide) (fun _ => ?_) (fun _ => ?_)
  · exact rf_sub [0, 1, 2, 3, 4] rfl (hj16 s18 trivial)
  refine rf_iload C dX12_choose_56 4 rfl ?_
  exact rf_iret C dX12_choose_58

def fX12_parse (n : Nat) (s0 : PH) : Option (Int32 × PH) :=
(lt (si s0 148 7 (nI 0)) fun (s1 : PH) =>
(bd (fX12_deepest n (nI 0) s1) fun (r3 : Int32) (s2 : PH) =>
(if r3 = (-9 : Int32) then
(some ((-2 : Int32), s2))
else
(bd (fX12_someReached n 156 36 s2) fun (r5 : Int32) (s4 : PH) =>
(if r5 = 0 then
(bd (fX12_laysInput n s4) fun (r7 : Int32) (s6 : PH) =>
(lt r7 fun (v8 : Int32) =>
(if v8 = (-9 : Int32) then
(lt (nI 1) fun (v9 : Int32) =>
(lt (nI 0) fun (v10 : Int32) =>
(bd (fX12_start s6) fun (r12 : Int32) (s11 : PH) =>
(wa 900 (nI 0) (lt (si s11 167 (nI 0).toNatClampNeg ((nI 10) + r12)) fun (s13 : PH) =>
(loo3 (fun (recrec17 : Int32 → Int32 → PH → Option (Int32 × PH)) (v14 : Int32) (v15 : Int32) (s16 : PH) =>
(if v14 ≤ 0 then
(if v15 = (s16.1 148 24) then
(some ((s16.1 148 7), s16))
else
(some (((-10 : Int32) - v15), s16)))
else
(lt (v14 + (-1 : Int32)) fun (v18 : Int32) =>
(ra 900 v18 (s16.1 167) fun (v19 : Int32) =>
(lt v19 fun (v20 : Int32) =>
(jn (fun (v21 : Int32) (v22 : Int32) (s23 : PH) =>
(recrec17 v21 v22 s23)) (fun (j24 : Int32 → Int32 → PH → Option (Int32 × PH)) =>
(if (nI 10) ≤ v20 then
(bd (fX12_choose n (v20 - (nI 10)) v15 s16) fun (r26 : Int32) (s25 : PH) =>
(lt r26 fun (v27 : Int32) =>
(if v27 = (-9 : Int32) then
(some (((-10 : Int32) - v15), s25))
else
(if (s25.1 148 7) = (nI 60) then
(some (((-10 : Int32) - v15), s25))
else
(wa 60 (s25.1 148 7) (lt (si s25 152 (s25.1 148 7).toNatClampNeg v27) fun (s28 : PH) =>
(lt (si s28 148 7 ((s28.1 148 7) + (nI 1))) fun (s29 : PH) =>
(bd (fX12_size v27 s29) fun (r31 : Int32) (s30 : PH) =>
(lt (r31 - (nI 1)) fun (v32 : Int32) =>
(loo3 (fun (recrec36 : Int32 → Int32 → PH → Option (Int32 × PH)) (v33 : Int32) (v34 : Int32) (s35 : PH) =>
(if v34 < 0 then
(j24 v33 v15 s35)
else
(bd (fX12_at v27 v34 s35) fun (r38 : Int32) (s37 : PH) =>
(wa 900 v33 (lt (si s37 167 v33.toNatClampNeg r38) fun (s39 : PH) =>
(lt (v33 + (nI 1)) fun (v40 : Int32) =>
(lt (v34 + (-1 : Int32)) fun (v41 : Int32) =>
(recrec36 v40 v41 s39)))))))) n v18 v32 s30))))))))))
else
(if v15 = (s16.1 148 24) then
(some (((-10 : Int32) - v15), s16))
else
(ra 8 v15 (s16.1 166) fun (v42 : Int32) =>
(if v42 = v20 then
(lt (v15 + (nI 1)) fun (v43 : Int32) =>
(j24 v18 v43 s16))
else
(some (((-10 : Int32) - v15), s16))))))))))))) n v9 v10 s13))))))
else
(some (((-100 : Int32) - v8), s6)))))
else
(some ((-2 : Int32), s4)))))))
set_option maxRecDepth 20000 in
set_option maxHeartbeats 2000000 in
theorem mX12_parse (l : Launch) (n : Nat) (s0 : PH) : Cti 174 l yX12_parse cX12_parse 7 (some .int) (rmOf 6 138) (fun E => [.ref (E.2.1 148)]) s0 (fX12_parse n s0) := by
  refine Cti.of (by decide) rfl (lv := fun E => [(0, .ref (E.2.1 148))]) (fun _ => Nat.le_of_ble_eq_true rfl) (fun _ => rfl) (fun Γ hΓ _ C => ?_)
  subst hΓ
  unfold fX12_parse
  refine rf_aload_n C dX12_parse_0 rfl 0 rfl ?_
  refine rf_iconst C (v := (nI 0)) dX12_parse_1 rfl ?_
  refine rf_puti C cfX12 flX12_257 (by decide) rfl oX12 (fty := .int) rfl rfl rfl (fun _ _ _ _ => Nat.le_of_ble_eq_true rfl) (fun _ _ _ _ => rfl) dX12_parse_2 (fun s1 => ?_)
  refine rf_aload_n C dX12_parse_5 rfl 0 rfl ?_
  refine rf_iconst C (v := (nI 0)) dX12_parse_6 rfl ?_
  refine rf_callVi C (rmc := rmOf 5 114) [.int (nI 0)] (by decide) (mX12_deepest (gL Γ) n (nI 0) s1) mfX12_deepest mvX12_deepest mlX12_260 rfl oX12 rfl rfl rfl (Nat.le_of_ble_eq_true rfl) ⟨Nat.le_of_ble_eq_true rfl, Nat.le_of_ble_eq_true rfl⟩ dX12_parse_7 (fun r3 s2 => ?_)
  refine rf_bipush C (v := (-9 : Int32)) dX12_parse_10 rfl ?_
  refine rf_icmp_eq C 26 dX12_parse_12 (by decide) (fun _ => ?_) (fun _ => ?_)
  · refine rf_bipush C (v := (-2 : Int32)) dX12_parse_26 rfl ?_
    exact rf_iret C dX12_parse_28
  refine rf_aload_n C dX12_parse_15 rfl 0 rfl ?_
  refine rf_aload_n C dX12_parse_16 rfl 0 rfl ?_
  refine rf_get C (v := .ref ((gE Γ).2.1 156)) cfX12 flX12_36 (by decide) oX12 rfl dX12_parse_17 ?_
  refine rf_callVi C (rmc := rmOf 0 0) [.ref ((gE Γ).2.1 156)] (by decide) (mX12_someReached (gL Γ) n 156 36 s2 ar156) mfX12_someReached mvX12_someReached mlX12_264 rfl oX12 rfl rfl rfl (Nat.le_of_ble_eq_true rfl) ⟨Nat.le_of_ble_eq_true rfl, Nat.le_of_ble_eq_true rfl⟩ dX12_parse_20 (fun r5 s4 => ?_)
  refine rf_if_eq C 29 dX12_parse_23 (by decide) (fun _ => ?_) (fun _ => ?_)
  · refine rf_aload_n C dX12_parse_29 rfl 0 rfl ?_
    refine rf_callVi C (rmc := rmOf 1 22) [] (by decide) (mX12_laysInput (gL Γ) n s4) mfX12_laysInput mvX12_laysInput mlX12_268 rfl oX12 rfl rfl rfl (Nat.le_of_ble_eq_true rfl) ⟨Nat.le_of_ble_eq_true rfl, Nat.le_of_ble_eq_true rfl⟩ dX12_parse_30 (fun r7 s6 => ?_)
    refine rf_istore_n C (fun v8 => [(1, .int v8), (0, .ref ((gE Γ).2.1 148))]) dX12_parse_33 rfl (by decide) (fun _ => rfl) (fun v8 => ?_)
    refine rf_iload_n C dX12_parse_34 rfl 0 rfl ?_
    refine rf_bipush C (v := (-9 : Int32)) dX12_parse_35 rfl ?_
    refine rf_icmp_eq C 45 dX12_parse_37 (by decide) (fun _ => ?_) (fun _ => ?_)
    · refine rf_iconst C (v := (nI 1)) dX12_parse_45 rfl ?_
      refine rf_istore_n C (fun v9 => [(2, .int v9), (1, .int v8), (0, .ref ((gE Γ).2.1 148))]) dX12_parse_46 rfl (by decide) (fun _ => rfl) (fun v9 => ?_)
      refine rf_iconst C (v := (nI 0)) dX12_parse_47 rfl ?_
      refine rf_istore_n C (fun v10 => [(3, .int v10), (2, .int v9), (1, .int v8), (0, .ref ((gE Γ).2.1 148))]) dX12_parse_48 rfl (by decide) (fun _ => rfl) (fun v10 => ?_)
      refine rf_aload_n C dX12_parse_49 rfl 3 rfl ?_
      refine rf_get C (v := .ref ((gE Γ).2.1 167)) cfX12 flX12_69 (by decide) oX12 rfl dX12_parse_50 ?_
      refine rf_iconst C (v := (nI 0)) dX12_parse_53 rfl ?_
      refine rf_bipush C (v := (nI 10)) dX12_parse_54 rfl ?_
      refine rf_aload_n C dX12_parse_56 rfl 3 rfl ?_
      refine rf_callVi C (rmc := rmOf 0 0) [] (by decide) (mX12_start (gL Γ) s6) mfX12_start mvX12_start mlX12_124 rfl oX12 rfl rfl rfl (Nat.le_of_ble_eq_true rfl) ⟨Nat.le_of_ble_eq_true rfl, Nat.le_of_ble_eq_true rfl⟩ dX12_parse_57 (fun r12 s11 => ?_)
      refine rf_iadd C dX12_parse_60 ?_
      refine rf_iast C ar167 dX12_parse_61 (fun s13 => ?_)
      refine rf_sub [3, 1, 0] rfl ?_
      refine rf_loo3 (fun _ _ _ => True) (fun _ _ s16 => s16) (fun v14 v15 s16 => [(0, .ref ((gE Γ).2.1 148)), (2, .int v14), (3, .int v15)]) (fun recrec17 hrec17 v14 v15 s16 _ => ?_) n v9 v10 s13 trivial
      refine rf_iload_n C dX12_parse_62 rfl 1 rfl ?_
      refine rf_if_le C 209 dX12_parse_63 (by decide) (fun _ => ?_) (fun _ => ?_)
      · refine rf_iload_n C dX12_parse_209 rfl 2 rfl ?_
        refine rf_aload_n C dX12_parse_210 rfl 0 rfl ?_
        refine rf_get C (v := .int (s16.1 148 24)) cfX12 flX12_251 (by decide) oX12 rfl dX12_parse_211 ?_
        refine rf_icmp_ne C 224 dX12_parse_214 (by decide) (fun _ => ?_) (fun _ => ?_)
        · refine rf_bipush C (v := (-10 : Int32)) dX12_parse_224 rfl ?_
          refine rf_iload_n C dX12_parse_226 rfl 2 rfl ?_
          refine rf_isub C dX12_parse_227 ?_
          exact rf_iret C dX12_parse_228
        refine rf_aload_n C dX12_parse_217 rfl 0 rfl ?_
        refine rf_get C (v := .int (s16.1 148 7)) cfX12 flX12_257 (by decide) oX12 rfl dX12_parse_218 ?_
        refine rf_goto C 228 dX12_parse_221 (by decide) ?_
        exact rf_iret C dX12_parse_228
      refine rf_iinc C (fun v18 => [(2, .int v18), (0, .ref ((gE Γ).2.1 148)), (3, .int v15)]) dX12_parse_66 1 rfl rfl (by decide) (fun _ => rfl) (fun v18 => ?_)
      refine rf_aload_n C dX12_parse_69 rfl 1 rfl ?_
      refine rf_get C (v := .ref ((gE Γ).2.1 167)) cfX12 flX12_69 (by decide) oX12 rfl dX12_parse_70 ?_
      refine rf_iload_n C dX12_parse_73 rfl 0 rfl ?_
      refine rf_iald C ar167 dX12_parse_74 (fun v19 => ?_)
      refine rf_istore C (fun v20 => [(4, .int v20), (2, .int v18), (0, .ref ((gE Γ).2.1 148)), (3, .int v15)]) dX12_parse_75 (by decide) (fun _ => rfl) (fun v20 => ?_)
      refine rf_iload C dX12_parse_77 0 rfl ?_
      refine rf_bipush C (v := (nI 10)) dX12_parse_79 rfl ?_
      refine rf_jn3 (fun _ _ _ => True) (fun _ _ s23 => s23) (fun v21 v22 s23 => [(0, .ref ((gE Γ).2.1 148)), (2, .int v21), (3, .int v22)]) (fun v21 v22 s23 => []) 206 (fun v21 v22 s23 _ => ?_) (fun j24 hj24 => ?_)
      · refine rf_goto C 62 dX12_parse_206 (by decide) ?_
        exact rf_sub [0, 1, 2] rfl (hrec17 v21 v22 s23 trivial)
      refine rf_icmp_ge C 114 dX12_parse_81 (by decide) (fun _ => ?_) (fun _ => ?_)
      · refine rf_aload_n C dX12_parse_114 rfl 2 rfl ?_
        refine rf_iload C dX12_parse_115 0 rfl ?_
        refine rf_bipush C (v := (nI 10)) dX12_parse_117 rfl ?_
        refine rf_isub C dX12_parse_119 ?_
        refine rf_iload_n C dX12_parse_120 rfl 3 rfl ?_
        refine rf_callVi C (rmc := rmOf 4 93) [.int (v20 - (nI 10)), .int v15] (by decide) (mX12_choose (gL Γ) n (v20 - (nI 10)) v15 s16) mfX12_choose mvX12_choose mlX12_271 rfl oX12 rfl rfl rfl (Nat.le_of_ble_eq_true rfl) ⟨Nat.le_of_ble_eq_true rfl, Nat.le_of_ble_eq_true rfl⟩ dX12_parse_121 (fun r26 s25 => ?_)
        refine rf_istore C (fun v27 => [(5, .int v27), (4, .int v20), (2, .int v18), (0, .ref ((gE Γ).2.1 148)), (3, .int v15)]) dX12_parse_124 (by decide) (fun _ => rfl) (fun v27 => ?_)
        refine rf_iload C dX12_parse_126 0 rfl ?_
        refine rf_bipush C (v := (-9 : Int32)) dX12_parse_128 rfl ?_
        refine rf_icmp_eq C 142 dX12_parse_130 (by decide) (fun _ => ?_) (fun _ => ?_)
        · refine rf_bipush C (v := (-10 : Int32)) dX12_parse_142 rfl ?_
          refine rf_iload_n C dX12_parse_144 rfl 4 rfl ?_
          refine rf_isub C dX12_parse_145 ?_
          exact rf_iret C dX12_parse_146
        refine rf_aload_n C dX12_parse_133 rfl 3 rfl ?_
        refine rf_get C (v := .int (s25.1 148 7)) cfX12 flX12_257 (by decide) oX12 rfl dX12_parse_134 ?_
        refine rf_bipush C (v := (nI 60)) dX12_parse_137 rfl ?_
        refine rf_icmp_ne C 147 dX12_parse_139 (by decide) (fun _ => ?_) (fun _ => ?_)
        · refine rf_aload_n C dX12_parse_147 rfl 3 rfl ?_
          refine rf_get C (v := .ref ((gE Γ).2.1 152)) cfX12 flX12_23 (by decide) oX12 rfl dX12_parse_148 ?_
          refine rf_aload_n C dX12_parse_151 rfl 3 rfl ?_
          refine rf_get C (v := .int (s25.1 148 7)) cfX12 flX12_257 (by decide) oX12 rfl dX12_parse_152 ?_
          refine rf_iload C dX12_parse_155 0 rfl ?_
          refine rf_iast C ar152 dX12_parse_157 (fun s28 => ?_)
          refine rf_aload_n C dX12_parse_158 rfl 3 rfl ?_
          refine rf_dup C dX12_parse_159 rfl ?_
          refine rf_get C (v := .int (s28.1 148 7)) cfX12 flX12_257 (by decide) oX12 rfl dX12_parse_160 ?_
          refine rf_iconst C (v := (nI 1)) dX12_parse_163 rfl ?_
          refine rf_iadd C dX12_parse_164 ?_
          refine rf_puti C cfX12 flX12_257 (by decide) rfl oX12 (fty := .int) rfl rfl rfl (fun _ _ _ _ => Nat.le_of_ble_eq_true rfl) (fun _ _ _ _ => rfl) dX12_parse_165 (fun s29 => ?_)
          refine rf_aload_n C dX12_parse_168 rfl 3 rfl ?_
          refine rf_iload C dX12_parse_169 0 rfl ?_
          refine rf_callVi C (rmc := rmOf 0 0) [.int v27] (by decide) (mX12_size (gL Γ) v27 s29) mfX12_size mvX12_size mlX12_117 rfl oX12 rfl rfl rfl (Nat.le_of_ble_eq_true rfl) ⟨Nat.le_of_ble_eq_true rfl, Nat.le_of_ble_eq_true rfl⟩ dX12_parse_171 (fun r31 s30 => ?_)
          refine rf_iconst C (v := (nI 1)) dX12_parse_174 rfl ?_
          refine rf_isub C dX12_parse_175 ?_
          refine rf_istore C (fun v32 => [(6, .int v32), (5, .int v27), (4, .int v20), (2, .int v18), (0, .ref ((gE Γ).2.1 148)), (3, .int v15)]) dX12_parse_176 (by decide) (fun _ => rfl) (fun v32 => ?_)
          refine rf_sub [4, 3, 5, 1, 0] rfl ?_
          refine rf_loo3 (fun _ _ _ => True) (fun _ _ s35 => s35) (fun v33 v34 s35 => [(0, .ref ((gE Γ).2.1 148)), (2, .int v33), (3, .int v15), (5, .int v27), (6, .int v34)]) (fun recrec36 hrec36 v33 v34 s35 _ => ?_) n v18 v32 s30 trivial
          refine rf_iload C dX12_parse_178 4 rfl ?_
          refine rf_if_lt C 206 dX12_parse_180 (by decide) (fun _ => ?_) (fun _ => ?_)
          · exact rf_sub [0, 1, 2] rfl (hj24 v33 v15 s35 trivial)
          refine rf_aload_n C dX12_parse_183 rfl 0 rfl ?_
          refine rf_get C (v := .ref ((gE Γ).2.1 167)) cfX12 flX12_69 (by decide) oX12 rfl dX12_parse_184 ?_
          refine rf_iload_n C dX12_parse_187 rfl 1 rfl ?_
          refine rf_aload_n C dX12_parse_188 rfl 0 rfl ?_
          refine rf_iload C dX12_parse_189 3 rfl ?_
          refine rf_iload C dX12_parse_191 4 rfl ?_
          refine rf_callVi C (rmc := rmOf 0 0) [.int v27, .int v34] (by decide) (mX12_at (gL Γ) v27 v34 s35) mfX12_at mvX12_at mlX12_109 rfl oX12 rfl rfl rfl (Nat.le_of_ble_eq_true rfl) ⟨Nat.le_of_ble_eq_true rfl, Nat.le_of_ble_eq_true rfl⟩ dX12_parse_193 (fun r38 s37 => ?_)
          refine rf_iast C ar167 dX12_parse_196 (fun s39 => ?_)
          refine rf_iinc C (fun v40 => [(2, .int v40), (0, .ref ((gE Γ).2.1 148)), (3, .int v15), (5, .int v27), (6, .int v34)]) dX12_parse_197 1 rfl rfl (by decide) (fun _ => rfl) (fun v40 => ?_)
          refine rf_iinc C (fun v41 => [(6, .int v41), (2, .int v40), (0, .ref ((gE Γ).2.1 148)), (3, .int v15), (5, .int v27)]) dX12_parse_200 4 rfl rfl (by decide) (fun _ => rfl) (fun v41 => ?_)
          refine rf_goto C 178 dX12_parse_203 (by decide) ?_
          exact rf_sub [2, 1, 3, 4, 0] rfl (hrec36 v40 v41 s39 trivial)
        refine rf_bipush C (v := (-10 : Int32)) dX12_parse_142 rfl ?_
        refine rf_iload_n C dX12_parse_144 rfl 4 rfl ?_
        refine rf_isub C dX12_parse_145 ?_
        exact rf_iret C dX12_parse_146
      refine rf_iload_n C dX12_parse_84 rfl 3 rfl ?_
      refine rf_aload_n C dX12_parse_85 rfl 2 rfl ?_
      refine rf_get C (v := .int (s16.1 148 24)) cfX12 flX12_251 (by decide) oX12 rfl dX12_parse_86 ?_
      refine rf_icmp_eq C 103 dX12_parse_89 (by decide) (fun _ => ?_) (fun _ => ?_)
      · refine rf_bipush C (v := (-10 : Int32)) dX12_parse_103 rfl ?_
        refine rf_iload_n C dX12_parse_105 rfl 3 rfl ?_
        refine rf_isub C dX12_parse_106 ?_
        exact rf_iret C dX12_parse_107
      refine rf_aload_n C dX12_parse_92 rfl 2 rfl ?_
      refine rf_get C (v := .ref ((gE Γ).2.1 166)) cfX12 flX12_66 (by decide) oX12 rfl dX12_parse_93 ?_
      refine rf_iload_n C dX12_parse_96 rfl 3 rfl ?_
      refine rf_iald C ar166 dX12_parse_97 (fun v42 => ?_)
      refine rf_iload C dX12_parse_98 0 rfl ?_
      refine rf_icmp_eq C 108 dX12_parse_100 (by decide) (fun _ => ?_) (fun _ => ?_)
      · refine rf_iinc C (fun v43 => [(3, .int v43), (4, .int v20), (2, .int v18), (0, .ref ((gE Γ).2.1 148))]) dX12_parse_108 3 rfl rfl (by decide) (fun _ => rfl) (fun v43 => ?_)
        refine rf_goto C 206 dX12_parse_111 (by decide) ?_
        exact rf_sub [3, 2, 0] rfl (hj24 v18 v43 s16 trivial)
      refine rf_bipush C (v := (-10 : Int32)) dX12_parse_103 rfl ?_
      refine rf_iload_n C dX12_parse_105 rfl 3 rfl ?_
      refine rf_isub C dX12_parse_106 ?_
      exact rf_iret C dX12_parse_107
    refine rf_bipush C (v := (-100 : Int32)) dX12_parse_40 rfl ?_
    refine rf_iload_n C dX12_parse_42 rfl 0 rfl ?_
    refine rf_isub C dX12_parse_43 ?_
    exact rf_iret C dX12_parse_44
  refine rf_bipush C (v := (-2 : Int32)) dX12_parse_26 rfl ?_
  exact rf_iret C dX12_parse_28

def fX12_chosen (a1 : Int32) (s0 : PH) : Option (Int32 × PH) :=
(if 0 ≤ a1 then
(if (s0.1 148 7) ≤ a1 then
(some ((-9 : Int32), s0))
else
(ra 60 a1 (s0.1 152) fun (v1 : Int32) =>
(some (v1, s0))))
else
(some ((-1 : Int32), s0)))
set_option maxRecDepth 20000 in
set_option maxHeartbeats 2000000 in
theorem mX12_chosen (l : Launch) (a1 : Int32) (s0 : PH) : Cti 174 l yX12_chosen cX12_chosen 2 (some .int) (rmOf 0 0) (fun E => [.ref (E.2.1 148), .int a1]) s0 (fX12_chosen a1 s0) := by
  refine Cti.of (by decide) rfl (lv := fun E => [(0, .ref (E.2.1 148)), (1, .int a1)]) (fun _ => Nat.le_of_ble_eq_true rfl) (fun _ => rfl) (fun Γ hΓ _ C => ?_)
  subst hΓ
  unfold fX12_chosen
  refine rf_iload_n C dX12_chosen_0 rfl 1 rfl ?_
  refine rf_if_ge C 8 dX12_chosen_1 (by decide) (fun _ => ?_) (fun _ => ?_)
  · refine rf_iload_n C dX12_chosen_8 rfl 1 rfl ?_
    refine rf_aload_n C dX12_chosen_9 rfl 0 rfl ?_
    refine rf_get C (v := .int (s0.1 148 7)) cfX12 flX12_257 (by decide) oX12 rfl dX12_chosen_10 ?_
    refine rf_icmp_ge C 25 dX12_chosen_13 (by decide) (fun _ => ?_) (fun _ => ?_)
    · refine rf_bipush C (v := (-9 : Int32)) dX12_chosen_25 rfl ?_
      exact rf_iret C dX12_chosen_27
    refine rf_aload_n C dX12_chosen_16 rfl 0 rfl ?_
    refine rf_get C (v := .ref ((gE Γ).2.1 152)) cfX12 flX12_23 (by decide) oX12 rfl dX12_chosen_17 ?_
    refine rf_iload_n C dX12_chosen_20 rfl 1 rfl ?_
    refine rf_iald C ar152 dX12_chosen_21 (fun v1 => ?_)
    refine rf_goto C 27 dX12_chosen_22 (by decide) ?_
    exact rf_iret C dX12_chosen_27
  refine rf_iconst C (v := (-1 : Int32)) dX12_chosen_4 rfl ?_
  refine rf_goto C 27 dX12_chosen_5 (by decide) ?_
  exact rf_iret C dX12_chosen_27

def fX12_waysOf (a1 : Int32) (a2 : Int32) (a3 : Int32) (s0 : PH) : Option (Int64 × PH) :=
(ra 486 ((((nI 81) * a1) + ((nI 9) * a2)) + a3) (s0.2.1 168) fun (u1 : Int64) =>
(some (u1, s0)))
set_option maxRecDepth 20000 in
set_option maxHeartbeats 2000000 in
theorem mX12_waysOf (l : Launch) (a1 : Int32) (a2 : Int32) (a3 : Int32) (s0 : PH) : Ctl 174 l yX12_waysOf cX12_waysOf 4 (some .long) (rmOf 0 0) (fun E => [.ref (E.2.1 148), .int a1, .int a2, .int a3]) s0 (fX12_waysOf a1 a2 a3 s0) := by
  refine Ctl.of (by decide) rfl (lv := fun E => [(0, .ref (E.2.1 148)), (1, .int a1), (2, .int a2), (3, .int a3)]) (fun _ => Nat.le_of_ble_eq_true rfl) (fun _ => rfl) (fun Γ hΓ _ C => ?_)
  subst hΓ
  unfold fX12_waysOf
  refine rf_aload_n C dX12_waysOf_0 rfl 0 rfl ?_
  refine rf_get C (v := .ref ((gE Γ).2.1 168)) cfX12 flX12_72 (by decide) oX12 rfl dX12_waysOf_1 ?_
  refine rf_bipush C (v := (nI 81)) dX12_waysOf_4 rfl ?_
  refine rf_iload_n C dX12_waysOf_6 rfl 1 rfl ?_
  refine rf_imul C dX12_waysOf_7 ?_
  refine rf_bipush C (v := (nI 9)) dX12_waysOf_8 rfl ?_
  refine rf_iload_n C dX12_waysOf_10 rfl 2 rfl ?_
  refine rf_imul C dX12_waysOf_11 ?_
  refine rf_iadd C dX12_waysOf_12 ?_
  refine rf_iload_n C dX12_waysOf_13 rfl 3 rfl ?_
  refine rf_iadd C dX12_waysOf_14 ?_
  refine rf_lald C ar168 dX12_waysOf_15 (fun u1 => ?_)
  exact rf_lret C dX12_waysOf_16

def fX12_held (a1 : Int64) (s0 : PH) : Option (Int64 × PH) :=
(if a1 ≤ (1000000000 : Int64) then
(some (a1, s0))
else
(some ((1000000000 : Int64), s0)))
set_option maxRecDepth 20000 in
set_option maxHeartbeats 2000000 in
theorem mX12_held (l : Launch) (a1 : Int64) (s0 : PH) : Ctl 174 l yX12_held cX12_held 2 (some .long) (rmOf 0 0) (fun E => [.long a1]) s0 (fX12_held a1 s0) := by
  refine Ctl.of (by decide) rfl (lv := fun E => [(0, .long a1)]) (fun _ => Nat.le_of_ble_eq_true rfl) (fun _ => rfl) (fun Γ hΓ _ C => ?_)
  subst hΓ
  unfold fX12_held
  refine rf_lload_n C dX12_held_0 rfl 0 rfl ?_
  refine rf_ldc2 C dX12_held_1 klX12_274 ?_
  refine rf_lcmp_le C 14 dX12_held_4 dX12_held_5 (by decide) (fun _ => ?_) (fun _ => ?_)
  · refine rf_lload_n C dX12_held_14 rfl 0 rfl ?_
    exact rf_lret C dX12_held_15
  refine rf_ldc2 C dX12_held_8 klX12_274 ?_
  refine rf_goto C 15 dX12_held_11 (by decide) ?_
  exact rf_lret C dX12_held_15

