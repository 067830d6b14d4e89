def fX10_marksAt (n : Nat) (t : Nat) (a1 : Int32) (s0 : PH) : Option (Int32 × PH) :=
(if a1 = 0 then
(jn (fun (v27 : Int32) (s28 : PH) =>
(bd (fX10_markMask (s0.2.1 (wId t 0) 2) v27 s28) fun (r31 : Int32) (s30 : PH) =>
(some (r31, s30)))) (fun (j29 : Int32 → PH → Option (Int32 × PH)) =>
(if ((s0.2.1 (wId t 0) 2) &&& (1 : Int64)) = (0 : Int64) then
(j29 (nI 0) s0)
else
(j29 (nI 1) s0))))
else
(if a1 = (nI 1) then
(bd (fX10_lastDigits n (s0.2.1 (wId t 0) 1) s0) fun (r21 : Int64) (s20 : PH) =>
(jn (fun (v22 : Int32) (s23 : PH) =>
(bd (fX10_markMask r21 v22 s23) fun (r26 : Int32) (s25 : PH) =>
(some (r26, s25)))) (fun (j24 : Int32 → PH → Option (Int32 × PH)) =>
(if ((s20.2.1 (wId t 0) 1) &&& (63 : Int64)) = (0 : Int64) then
(j24 (nI 0) s20)
else
(j24 (nI 1) s20)))))
else
(lt (0 : Int64) fun (u1 : Int64) =>
(lt (nI 1) fun (v2 : Int32) =>
(loo3 (fun (recrec6 : Int64 → Int32 → PH → Option (Int32 × PH)) (u3 : Int64) (v4 : Int32) (s5 : PH) =>
(if (nI 6) ≤ v4 then
(bd (fX10_lastDigits n u3 s5) fun (r8 : Int64) (s7 : PH) =>
(ra 6 (nI 0) (s7.2.1 (wId t 1)) fun (u9 : Int64) =>
(jn (fun (v10 : Int32) (s11 : PH) =>
(bd (fX10_markMask r8 v10 s11) fun (r14 : Int32) (s13 : PH) =>
(some (r14, s13)))) (fun (j12 : Int32 → PH → Option (Int32 × PH)) =>
(jn (fun (s15 : PH) =>
(j12 (nI 1) s15)) (fun (j16 : PH → Option (Int32 × PH)) =>
(if u9 = (0 : Int64) then
(if (u3 &&& (63 : Int64)) = (0 : Int64) then
(j12 (nI 0) s7)
else
(j16 s7))
else
(j16 s7))))))))
else
(ra 6 v4 (s5.2.1 (wId t 1)) fun (u17 : Int64) =>
(lt (u3 ||| u17) fun (u18 : Int64) =>
(lt (v4 + (nI 1)) fun (v19 : Int32) =>
(recrec6 u18 v19 s5)))))) n u1 v2 s0)))))
set_option maxRecDepth 20000 in
set_option maxHeartbeats 2000000 in
theorem mX10_marksAt (l : Launch) (n : Nat) (t : Nat) (a1 : Int32) (s0 : PH) (ht : t < 36) : Cti 148 l yX10_marksAt cX10_marksAt 5 (some .int) (rmOf 1 24) (fun E => [.ref (E.2.1 (wId t 0)), .int a1]) s0 (fX10_marksAt n t a1 s0) := by
  refine Cti.of (by decide) rfl (lv := fun E => [(0, .ref (E.2.1 (wId t 0))), (1, .int a1)]) (fun _ => Nat.le_of_ble_eq_true rfl) (fun _ => rfl) (fun Γ hΓ _ C => ?_)
  subst hΓ
  unfold fX10_marksAt
  refine rf_iload_n C dX10_marksAt_0 rfl 1 rfl ?_
  refine rf_if_ne C 28 dX10_marksAt_1 (by decide) (fun _ => ?_) (fun _ => ?_)
  · refine rf_iload_n C dX10_marksAt_28 rfl 1 rfl ?_
    refine rf_iconst C (v := (nI 1)) dX10_marksAt_29 rfl ?_
    refine rf_icmp_ne C 62 dX10_marksAt_30 (by decide) (fun _ => ?_) (fun _ => ?_)
    · refine rf_lconst C (v := (0 : Int64)) dX10_marksAt_62 rfl ?_
      refine rf_lstore_n C (fun u1 => [(2, .long u1), (0, .ref ((gE Γ).2.1 (wId t 0))), (1, .int a1)]) dX10_marksAt_63 rfl (by decide) (fun _ => rfl) (fun u1 => ?_)
      refine rf_iconst C (v := (nI 1)) dX10_marksAt_64 rfl ?_
      refine rf_istore C (fun v2 => [(4, .int v2), (2, .long u1), (0, .ref ((gE Γ).2.1 (wId t 0))), (1, .int a1)]) dX10_marksAt_65 (by decide) (fun _ => rfl) (fun v2 => ?_)
      refine rf_sub [2, 1, 0] rfl ?_
      refine rf_loo3 (fun _ _ _ => True) (fun _ _ s5 => s5) (fun u3 v4 s5 => [(0, .ref ((gE Γ).2.1 (wId t 0))), (2, .long u3), (4, .int v4)]) (fun recrec6 hrec6 u3 v4 s5 _ => ?_) n u1 v2 s0 trivial
      refine rf_iload C dX10_marksAt_67 2 rfl ?_
      refine rf_bipush C (v := (nI 6)) dX10_marksAt_69 rfl ?_
      refine rf_icmp_ge C 90 dX10_marksAt_71 (by decide) (fun _ => ?_) (fun _ => ?_)
      · refine rf_lload_n C dX10_marksAt_90 rfl 1 rfl ?_
        refine rf_callSl C (rmc := rmOf 0 0) [.long u3] (by decide) (mX10_lastDigits (gL Γ) n u3 s5) mfX10_lastDigits msX10_lastDigits mlX10_57 rfl rfl rfl (Nat.le_of_ble_eq_true rfl) ⟨Nat.le_of_ble_eq_true rfl, Nat.le_of_ble_eq_true rfl⟩ dX10_marksAt_91 (fun r8 s7 => ?_)
        refine rf_aload_n C dX10_marksAt_94 rfl 0 rfl ?_
        refine rf_get C (v := .ref ((gE Γ).2.1 (wId t 1))) cfX10 flX10_9 (by decide) (oX10 ht) rfl dX10_marksAt_95 ?_
        refine rf_iconst C (v := (nI 0)) dX10_marksAt_98 rfl ?_
        refine rf_lald C (arW1 ht) dX10_marksAt_99 (fun u9 => ?_)
        refine rf_lconst C (v := (0 : Int64)) dX10_marksAt_100 rfl ?_
        refine rf_jn2 (fun _ _ => True) (fun _ s11 => s11) (fun v10 s11 => []) (fun v10 s11 => [.int v10, .long r8]) 120 (fun v10 s11 _ => ?_) (fun j12 hj12 => ?_)
        · refine rf_callSi C (rmc := rmOf 0 0) [.long r8, .int v10] (by decide) (mX10_markMask (gL Γ) r8 v10 s11) mfX10_markMask msX10_markMask mlX10_53 rfl rfl rfl (Nat.le_of_ble_eq_true rfl) ⟨Nat.le_of_ble_eq_true rfl, Nat.le_of_ble_eq_true rfl⟩ dX10_marksAt_120 (fun r14 s13 => ?_)
          exact rf_iret C dX10_marksAt_123
        refine rf_jn1 (fun _ => True) (fun  s15 => s15) (fun s15 => []) (fun s15 => [.long r8]) 115 (fun s15 _ => ?_) (fun j16 hj16 => ?_)
        · refine rf_iconst C (v := (nI 1)) dX10_marksAt_115 rfl ?_
          refine rf_goto C 120 dX10_marksAt_116 (by decide) ?_
          exact rf_sub [] rfl (hj12 (nI 1) s15 trivial)
        refine rf_lcmp_ne C 115 dX10_marksAt_101 dX10_marksAt_102 (by decide) (fun _ => ?_) (fun _ => ?_)
        · exact rf_sub [] rfl (hj16 s7 trivial)
        refine rf_lload_n C dX10_marksAt_105 rfl 1 rfl ?_
        refine rf_ldc2 C dX10_marksAt_106 klX10_61 ?_
        refine rf_land C dX10_marksAt_109 ?_
        refine rf_lconst C (v := (0 : Int64)) dX10_marksAt_110 rfl ?_
        refine rf_lcmp_eq C 119 dX10_marksAt_111 dX10_marksAt_112 (by decide) (fun _ => ?_) (fun _ => ?_)
        · refine rf_iconst C (v := (nI 0)) dX10_marksAt_119 rfl ?_
          exact rf_sub [] rfl (hj12 (nI 0) s7 trivial)
        exact rf_sub [] rfl (hj16 s7 trivial)
      refine rf_lload_n C dX10_marksAt_74 rfl 1 rfl ?_
      refine rf_aload_n C dX10_marksAt_75 rfl 0 rfl ?_
      refine rf_get C (v := .ref ((gE Γ).2.1 (wId t 1))) cfX10 flX10_9 (by decide) (oX10 ht) rfl dX10_marksAt_76 ?_
      refine rf_iload C dX10_marksAt_79 2 rfl ?_
      refine rf_lald C (arW1 ht) dX10_marksAt_81 (fun u17 => ?_)
      refine rf_lor C dX10_marksAt_82 ?_
      refine rf_lstore_n C (fun u18 => [(2, .long u18), (0, .ref ((gE Γ).2.1 (wId t 0))), (4, .int v4)]) dX10_marksAt_83 rfl (by decide) (fun _ => rfl) (fun u18 => ?_)
      refine rf_iinc C (fun v19 => [(4, .int v19), (2, .long u18), (0, .ref ((gE Γ).2.1 (wId t 0)))]) dX10_marksAt_84 2 rfl rfl (by decide) (fun _ => rfl) (fun v19 => ?_)
      refine rf_goto C 67 dX10_marksAt_87 (by decide) ?_
      exact rf_sub [2, 1, 0] rfl (hrec6 u18 v19 s5 trivial)
    refine rf_aload_n C dX10_marksAt_33 rfl 0 rfl ?_
    refine rf_get C (v := .long (s0.2.1 (wId t 0) 1)) cfX10 flX10_15 (by decide) (oX10 ht) rfl dX10_marksAt_34 ?_
    refine rf_callSl C (rmc := rmOf 0 0) [.long (s0.2.1 (wId t 0) 1)] (by decide) (mX10_lastDigits (gL Γ) n (s0.2.1 (wId t 0) 1) s0) mfX10_lastDigits msX10_lastDigits mlX10_57 rfl rfl rfl (Nat.le_of_ble_eq_true rfl) ⟨Nat.le_of_ble_eq_true rfl, Nat.le_of_ble_eq_true rfl⟩ dX10_marksAt_37 (fun r21 s20 => ?_)
    refine rf_aload_n C dX10_marksAt_40 rfl 0 rfl ?_
    refine rf_get C (v := .long (s20.2.1 (wId t 0) 1)) cfX10 flX10_15 (by decide) (oX10 ht) rfl dX10_marksAt_41 ?_
    refine rf_ldc2 C dX10_marksAt_44 klX10_61 ?_
    refine rf_land C dX10_marksAt_47 ?_
    refine rf_lconst C (v := (0 : Int64)) dX10_marksAt_48 rfl ?_
    refine rf_jn2 (fun _ _ => True) (fun _ s23 => s23) (fun v22 s23 => []) (fun v22 s23 => [.int v22, .long r21]) 58 (fun v22 s23 _ => ?_) (fun j24 hj24 => ?_)
    · refine rf_callSi C (rmc := rmOf 0 0) [.long r21, .int v22] (by decide) (mX10_markMask (gL Γ) r21 v22 s23) mfX10_markMask msX10_markMask mlX10_53 rfl rfl rfl (Nat.le_of_ble_eq_true rfl) ⟨Nat.le_of_ble_eq_true rfl, Nat.le_of_ble_eq_true rfl⟩ dX10_marksAt_58 (fun r26 s25 => ?_)
      exact rf_iret C dX10_marksAt_61
    refine rf_lcmp_eq C 57 dX10_marksAt_49 dX10_marksAt_50 (by decide) (fun _ => ?_) (fun _ => ?_)
    · refine rf_iconst C (v := (nI 0)) dX10_marksAt_57 rfl ?_
      exact rf_sub [] rfl (hj24 (nI 0) s20 trivial)
    refine rf_iconst C (v := (nI 1)) dX10_marksAt_53 rfl ?_
    refine rf_goto C 58 dX10_marksAt_54 (by decide) ?_
    exact rf_sub [] rfl (hj24 (nI 1) s20 trivial)
  refine rf_aload_n C dX10_marksAt_4 rfl 0 rfl ?_
  refine rf_get C (v := .long (s0.2.1 (wId t 0) 2)) cfX10 flX10_19 (by decide) (oX10 ht) rfl dX10_marksAt_5 ?_
  refine rf_aload_n C dX10_marksAt_8 rfl 0 rfl ?_
  refine rf_get C (v := .long (s0.2.1 (wId t 0) 2)) cfX10 flX10_19 (by decide) (oX10 ht) rfl dX10_marksAt_9 ?_
  refine rf_lconst C (v := (1 : Int64)) dX10_marksAt_12 rfl ?_
  refine rf_land C dX10_marksAt_13 ?_
  refine rf_lconst C (v := (0 : Int64)) dX10_marksAt_14 rfl ?_
  refine rf_jn2 (fun _ _ => True) (fun _ s28 => s28) (fun v27 s28 => []) (fun v27 s28 => [.int v27, .long (s0.2.1 (wId t 0) 2)]) 24 (fun v27 s28 _ => ?_) (fun j29 hj29 => ?_)
  · refine rf_callSi C (rmc := rmOf 0 0) [.long (s0.2.1 (wId t 0) 2), .int v27] (by decide) (mX10_markMask (gL Γ) (s0.2.1 (wId t 0) 2) v27 s28) mfX10_markMask msX10_markMask mlX10_53 rfl rfl rfl (Nat.le_of_ble_eq_true rfl) ⟨Nat.le_of_ble_eq_true rfl, Nat.le_of_ble_eq_true rfl⟩ dX10_marksAt_24 (fun r31 s30 => ?_)
    exact rf_iret C dX10_marksAt_27
  refine rf_lcmp_eq C 23 dX10_marksAt_15 dX10_marksAt_16 (by decide) (fun _ => ?_) (fun _ => ?_)
  · refine rf_iconst C (v := (nI 0)) dX10_marksAt_23 rfl ?_
    exact rf_sub [] rfl (hj29 (nI 0) s0 trivial)
  refine rf_iconst C (v := (nI 1)) dX10_marksAt_19 rfl ?_
  refine rf_goto C 24 dX10_marksAt_20 (by decide) ?_
  exact rf_sub [] rfl (hj29 (nI 1) s0 trivial)

def fX3_partingPlace (n : Nat) (a1 : Nat) (a2 : Nat) (s0 : PH) : Option (Int32 × PH) :=
(lt (nI 0) fun (v1 : Int32) =>
(loo2 (fun (recrec4 : Int32 → PH → Option (Int32 × PH)) (v2 : Int32) (s3 : PH) =>
(if (nI 3) ≤ v2 then
(some ((-9 : Int32), s3))
else
(bd (fX10_marksAt n a1 v2 s3) fun (r6 : Int32) (s5 : PH) =>
(bd (fX10_marksAt n a2 v2 s5) fun (r8 : Int32) (s7 : PH) =>
(if (r6 &&& r8) = 0 then
(some (v2, s7))
else
(lt (v2 + (nI 1)) fun (v9 : Int32) =>
(recrec4 v9 s7))))))) n v1 s0))
set_option maxRecDepth 20000 in
set_option maxHeartbeats 2000000 in
theorem mX3_partingPlace (l : Launch) (n : Nat) (a1 : Nat) (a2 : Nat) (s0 : PH) (ha1 : a1 < 36) (ha2 : a2 < 36) : Cti 148 l yX3_partingPlace cX3_partingPlace 3 (some .int) (rmOf 2 48) (fun E => [.ref (E.2.1 (wId a1 0)), .ref (E.2.1 (wId a2 0))]) s0 (fX3_partingPlace n a1 a2 s0) := by
  refine Cti.of (by decide) rfl (lv := fun E => [(0, .ref (E.2.1 (wId a1 0))), (1, .ref (E.2.1 (wId a2 0)))]) (fun _ => Nat.le_of_ble_eq_true rfl) (fun _ => rfl) (fun Γ hΓ _ C => ?_)
  subst hΓ
  unfold fX3_partingPlace
  refine rf_iconst C (v := (nI 0)) dX3_partingPlace_0 rfl ?_
  refine rf_istore_n C (fun v1 => [(2, .int v1), (0, .ref ((gE Γ).2.1 (wId a1 0))), (1, .ref ((gE Γ).2.1 (wId a2 0)))]) dX3_partingPlace_1 rfl (by decide) (fun _ => rfl) (fun v1 => ?_)
  refine rf_sub [1, 2, 0] rfl ?_
  refine rf_loo2 (fun _ _ => True) (fun _ s3 => s3) (fun v2 s3 => [(0, .ref ((gE Γ).2.1 (wId a1 0))), (1, .ref ((gE Γ).2.1 (wId a2 0))), (2, .int v2)]) (fun recrec4 hrec4 v2 s3 _ => ?_) n v1 s0 trivial
  refine rf_iload_n C dX3_partingPlace_2 rfl 2 rfl ?_
  refine rf_iconst C (v := (nI 3)) dX3_partingPlace_3 rfl ?_
  refine rf_icmp_ge C 29 dX3_partingPlace_4 (by decide) (fun _ => ?_) (fun _ => ?_)
  · refine rf_bipush C (v := (-9 : Int32)) dX3_partingPlace_29 rfl ?_
    exact rf_iret C dX3_partingPlace_31
  refine rf_aload_n C dX3_partingPlace_7 rfl 0 rfl ?_
  refine rf_iload_n C dX3_partingPlace_8 rfl 2 rfl ?_
  refine rf_callVi C (rmc := rmOf 1 24) [.int v2] (by decide) (mX10_marksAt (gL Γ) n a1 v2 s3 ha1) mfX10_marksAt mvX10_marksAt mlX3_136 rfl (oX10 ha1) rfl rfl rfl (Nat.le_of_ble_eq_true rfl) ⟨Nat.le_of_ble_eq_true rfl, Nat.le_of_ble_eq_true rfl⟩ dX3_partingPlace_9 (fun r6 s5 => ?_)
  refine rf_aload_n C dX3_partingPlace_12 rfl 1 rfl ?_
  refine rf_iload_n C dX3_partingPlace_13 rfl 2 rfl ?_
  refine rf_callVi C (rmc := rmOf 1 24) [.int v2] (by decide) (mX10_marksAt (gL Γ) n a2 v2 s5 ha2) mfX10_marksAt mvX10_marksAt mlX3_136 rfl (oX10 ha2) rfl rfl rfl (Nat.le_of_ble_eq_true rfl) ⟨Nat.le_of_ble_eq_true rfl, Nat.le_of_ble_eq_true rfl⟩ dX3_partingPlace_14 (fun r8 s7 => ?_)
  refine rf_iand C dX3_partingPlace_17 ?_
  refine rf_if_ne C 23 dX3_partingPlace_18 (by decide) (fun _ => ?_) (fun _ => ?_)
  · refine rf_iinc C (fun v9 => [(2, .int v9), (0, .ref ((gE Γ).2.1 (wId a1 0))), (1, .ref ((gE Γ).2.1 (wId a2 0)))]) dX3_partingPlace_23 2 rfl rfl (by decide) (fun _ => rfl) (fun v9 => ?_)
    refine rf_goto C 2 dX3_partingPlace_26 (by decide) ?_
    exact rf_sub [1, 2, 0] rfl (hrec4 v9 s7 trivial)
  refine rf_iload_n C dX3_partingPlace_21 rfl 2 rfl ?_
  exact rf_iret C dX3_partingPlace_22

def fX3_findRoughDepth (n : Nat) (a1 : Nat) (a2 : Int32) (s0 : PH) : Option (Int32 × PH) :=
(lt (nI 0) fun (v1 : Int32) =>
(bd (fX4_begin a1 a2 s0) fun (r3 : Int32) (s2 : PH) =>
(lt r3 fun (v4 : Int32) =>
(loo3 (fun (recrec8 : Int32 → Int32 → PH → Option (Int32 × PH)) (v5 : Int32) (v6 : Int32) (s7 : PH) =>
(bd (fX4_end a1 a2 s7) fun (r10 : Int32) (s9 : PH) =>
(if r10 ≤ v6 then
(some (v5, s9))
else
(lt (v6 + (nI 1)) fun (v11 : Int32) =>
(loo3 (fun (recrec15 : Int32 → Int32 → PH → Option (Int32 × PH)) (v12 : Int32) (v13 : Int32) (s14 : PH) =>
(bd (fX4_end a1 a2 s14) fun (r17 : Int32) (s16 : PH) =>
(if r17 ≤ v13 then
(lt (v6 + (nI 1)) fun (v18 : Int32) =>
(recrec8 v12 v18 s16))
else
(ra 16 v6 (fun j => 18 + j) fun (w19 : Nat) =>
(ra 16 v13 (fun j => 18 + j) fun (w20 : Nat) =>
(bd (fX3_partingPlace n w19 w20 s16) fun (r22 : Int32) (s21 : PH) =>
(lt r22 fun (v23 : Int32) =>
(if v23 = (-9 : Int32) then
(some ((-9 : Int32), s21))
else
(lt (if v12 < (v23 + (nI 1)) then (v23 + (nI 1)) else v12) fun (v24 : Int32) =>
(lt (v13 + (nI 1)) fun (v25 : Int32) =>
(recrec15 v24 v25 s21))))))))))) n v5 v11 s9))))) n v1 v4 s2))))
set_option maxRecDepth 20000 in
set_option maxHeartbeats 2000000 in
theorem mX3_findRoughDepth (l : Launch) (n : Nat) (a1 : Nat) (a2 : Int32) (s0 : PH) (ha1 : a1 < 6) : Cti 148 l yX3_findRoughDepth cX3_findRoughDepth 7 (some .int) (rmOf 3 70) (fun E => [.ref (E.2.1 13), .ref (E.2.1 (gId a1 0)), .int a2]) s0 (fX3_findRoughDepth n a1 a2 s0) := by
  refine Cti.of (by decide) rfl (lv := fun E => [(0, .ref (E.2.1 13)), (1, .ref (E.2.1 (gId a1 0))), (2, .int a2)]) (fun _ => Nat.le_of_ble_eq_true rfl) (fun _ => rfl) (fun Γ hΓ _ C => ?_)
  subst hΓ
  unfold fX3_findRoughDepth
  refine rf_iconst C (v := (nI 0)) dX3_findRoughDepth_0 rfl ?_
  refine rf_istore_n C (fun v1 => [(3, .int v1), (0, .ref ((gE Γ).2.1 13)), (1, .ref ((gE Γ).2.1 (gId a1 0))), (2, .int a2)]) dX3_findRoughDepth_1 rfl (by decide) (fun _ => rfl) (fun v1 => ?_)
  refine rf_aload_n C dX3_findRoughDepth_2 rfl 2 rfl ?_
  refine rf_iload_n C dX3_findRoughDepth_3 rfl 3 rfl ?_
  refine rf_callVi C (rmc := rmOf 0 0) [.int a2] (by decide) (mX4_begin (gL Γ) a1 a2 s0 ha1) mfX4_begin mvX4_begin mlX3_122 rfl (oX4 ha1) rfl rfl rfl (Nat.le_of_ble_eq_true rfl) ⟨Nat.le_of_ble_eq_true rfl, Nat.le_of_ble_eq_true rfl⟩ dX3_findRoughDepth_4 (fun r3 s2 => ?_)
  refine rf_istore C (fun v4 => [(4, .int v4), (3, .int v1), (0, .ref ((gE Γ).2.1 13)), (1, .ref ((gE Γ).2.1 (gId a1 0))), (2, .int a2)]) dX3_findRoughDepth_7 (by decide) (fun _ => rfl) (fun v4 => ?_)
  refine rf_sub [2, 3, 4, 1, 0] rfl ?_
  refine rf_loo3 (fun _ _ _ => True) (fun _ _ s7 => s7) (fun v5 v6 s7 => [(0, .ref ((gE Γ).2.1 13)), (1, .ref ((gE Γ).2.1 (gId a1 0))), (2, .int a2), (3, .int v5), (4, .int v6)]) (fun recrec8 hrec8 v5 v6 s7 _ => ?_) n v1 v4 s2 trivial
  refine rf_iload C dX3_findRoughDepth_9 4 rfl ?_
  refine rf_aload_n C dX3_findRoughDepth_11 rfl 1 rfl ?_
  refine rf_iload_n C dX3_findRoughDepth_12 rfl 2 rfl ?_
  refine rf_callVi C (rmc := rmOf 0 0) [.int a2] (by decide) (mX4_end (gL Γ) a1 a2 s7 ha1) mfX4_end mvX4_end mlX3_125 rfl (oX4 ha1) rfl rfl rfl (Nat.le_of_ble_eq_true rfl) ⟨Nat.le_of_ble_eq_true rfl, Nat.le_of_ble_eq_true rfl⟩ dX3_findRoughDepth_13 (fun r10 s9 => ?_)
  refine rf_icmp_ge C 85 dX3_findRoughDepth_16 (by decide) (fun _ => ?_) (fun _ => ?_)
  · refine rf_iload_n C dX3_findRoughDepth_85 rfl 3 rfl ?_
    exact rf_iret C dX3_findRoughDepth_86
  refine rf_iload C dX3_findRoughDepth_19 4 rfl ?_
  refine rf_iconst C (v := (nI 1)) dX3_findRoughDepth_21 rfl ?_
  refine rf_iadd C dX3_findRoughDepth_22 ?_
  refine rf_istore C (fun v11 => [(5, .int v11), (0, .ref ((gE Γ).2.1 13)), (1, .ref ((gE Γ).2.1 (gId a1 0))), (2, .int a2), (3, .int v5), (4, .int v6)]) dX3_findRoughDepth_23 (by decide) (fun _ => rfl) (fun v11 => ?_)
  refine rf_sub [1, 2, 3, 4, 5, 0] rfl ?_
  refine rf_loo3 (fun _ _ _ => True) (fun _ _ s14 => s14) (fun v12 v13 s14 => [(0, .ref ((gE Γ).2.1 13)), (1, .ref ((gE Γ).2.1 (gId a1 0))), (2, .int a2), (3, .int v12), (4, .int v6), (5, .int v13)]) (fun recrec15 hrec15 v12 v13 s14 _ => ?_) n v5 v11 s9 trivial
  refine rf_iload C dX3_findRoughDepth_25 5 rfl ?_
  refine rf_aload_n C dX3_findRoughDepth_27 rfl 1 rfl ?_
  refine rf_iload_n C dX3_findRoughDepth_28 rfl 2 rfl ?_
  refine rf_callVi C (rmc := rmOf 0 0) [.int a2] (by decide) (mX4_end (gL Γ) a1 a2 s14 ha1) mfX4_end mvX4_end mlX3_125 rfl (oX4 ha1) rfl rfl rfl (Nat.le_of_ble_eq_true rfl) ⟨Nat.le_of_ble_eq_true rfl, Nat.le_of_ble_eq_true rfl⟩ dX3_findRoughDepth_29 (fun r17 s16 => ?_)
  refine rf_icmp_ge C 79 dX3_findRoughDepth_32 (by decide) (fun _ => ?_) (fun _ => ?_)
  · refine rf_iinc C (fun v18 => [(4, .int v18), (0, .ref ((gE Γ).2.1 13)), (1, .ref ((gE Γ).2.1 (gId a1 0))), (2, .int a2), (3, .int v12), (5, .int v13)]) dX3_findRoughDepth_79 4 rfl rfl (by decide) (fun _ => rfl) (fun v18 => ?_)
    refine rf_goto C 9 dX3_findRoughDepth_82 (by decide) ?_
    exact rf_sub [1, 2, 3, 4, 0] rfl (hrec8 v12 v18 s16 trivial)
  refine rf_aload_n C dX3_findRoughDepth_35 rfl 0 rfl ?_
  refine rf_get C (v := .ref ((gE Γ).2.1 17)) cfX3 flX3_32 (by decide) oX3 rfl dX3_findRoughDepth_36 ?_
  refine rf_iload C dX3_findRoughDepth_39 4 rfl ?_
  refine rf_aldW C ar17 dX3_findRoughDepth_41 (fun w19 hw19 => ?_)
  refine rf_aload_n C dX3_findRoughDepth_42 rfl 0 rfl ?_
  refine rf_get C (v := .ref ((gE Γ).2.1 17)) cfX3 flX3_32 (by decide) oX3 rfl dX3_findRoughDepth_43 ?_
  refine rf_iload C dX3_findRoughDepth_46 5 rfl ?_
  refine rf_aldW C ar17 dX3_findRoughDepth_48 (fun w20 hw20 => ?_)
  refine rf_callSi C (rmc := rmOf 2 48) [.ref ((gE Γ).2.1 (wId w19 0)), .ref ((gE Γ).2.1 (wId w20 0))] (by decide) (mX3_partingPlace (gL Γ) n w19 w20 s16 (Nat.lt_of_lt_of_le hw19 (by decide)) (Nat.lt_of_lt_of_le hw20 (by decide))) mfX3_partingPlace msX3_partingPlace mlX3_132 rfl rfl rfl (Nat.le_of_ble_eq_true rfl) ⟨Nat.le_of_ble_eq_true rfl, Nat.le_of_ble_eq_true rfl⟩ dX3_findRoughDepth_49 (fun r22 s21 => ?_)
  refine rf_istore C (fun v23 => [(6, .int v23), (0, .ref ((gE Γ).2.1 13)), (1, .ref ((gE Γ).2.1 (gId a1 0))), (2, .int a2), (3, .int v12), (4, .int v6), (5, .int v13)]) dX3_findRoughDepth_52 (by decide) (fun _ => rfl) (fun v23 => ?_)
  refine rf_iload C dX3_findRoughDepth_54 0 rfl ?_
  refine rf_bipush C (v := (-9 : Int32)) dX3_findRoughDepth_56 rfl ?_
  refine rf_icmp_ne C 64 dX3_findRoughDepth_58 (by decide) (fun _ => ?_) (fun _ => ?_)
  · refine rf_iload_n C dX3_findRoughDepth_64 rfl 4 rfl ?_
    refine rf_iload C dX3_findRoughDepth_65 0 rfl ?_
    refine rf_iconst C (v := (nI 1)) dX3_findRoughDepth_67 rfl ?_
    refine rf_iadd C dX3_findRoughDepth_68 ?_
    refine rf_mmax C mlX3_52 (Nat.le_of_ble_eq_true rfl) (Nat.le_of_ble_eq_true rfl) mthmax dX3_findRoughDepth_69 ?_
    refine rf_istore_n C (fun v24 => [(3, .int v24), (6, .int v23), (0, .ref ((gE Γ).2.1 13)), (1, .ref ((gE Γ).2.1 (gId a1 0))), (2, .int a2), (4, .int v6), (5, .int v13)]) dX3_findRoughDepth_72 rfl (by decide) (fun _ => rfl) (fun v24 => ?_)
    refine rf_iinc C (fun v25 => [(5, .int v25), (3, .int v24), (6, .int v23), (0, .ref ((gE Γ).2.1 13)), (1, .ref ((gE Γ).2.1 (gId a1 0))), (2, .int a2), (4, .int v6)]) dX3_findRoughDepth_73 6 rfl rfl (by decide) (fun _ => rfl) (fun v25 => ?_)
    refine rf_goto C 25 dX3_findRoughDepth_76 (by decide) ?_
    exact rf_sub [3, 4, 5, 1, 6, 0] rfl (hrec15 v24 v25 s21 trivial)
  refine rf_bipush C (v := (-9 : Int32)) dX3_findRoughDepth_61 rfl ?_
  exact rf_iret C dX3_findRoughDepth_63

def fX3_find (n : Nat) (a1 : Nat) (s0 : PH) : Option (Unit × PH) :=
(bd (fX3_findFirsts n a1 s0) fun _ (s1 : PH) =>
(bd (fX3_findFollows n a1 s1) fun _ (s2 : PH) =>
(lt (nI 0) fun (v3 : Int32) =>
(loo2 (fun (recrec6 : Int32 → PH → Option (Unit × PH)) (v4 : Int32) (s5 : PH) =>
(bd (fX4_count a1 s5) fun (r8 : Int32) (s7 : PH) =>
(if r8 ≤ v4 then
(lt (nI 0) fun (v9 : Int32) =>
(loo2 (fun (recrec12 : Int32 → PH → Option (Unit × PH)) (v10 : Int32) (s11 : PH) =>
(if (nI 6) ≤ v10 then
(some ((), s11))
else
(bd (fX3_findDepth n a1 v10 s11) fun (r14 : Int32) (s13 : PH) =>
(wa 6 v10 (lt (si s13 19 v10.toNatClampNeg r14) fun (s15 : PH) =>
(bd (fX3_findRoughDepth n a1 v10 s15) fun (r17 : Int32) (s16 : PH) =>
(wa 6 v10 (lt (si s16 20 v10.toNatClampNeg r17) fun (s18 : PH) =>
(lt (v10 + (nI 1)) fun (v19 : Int32) =>
(recrec12 v19 s18)))))))))) n v9 s7))
else
(ra 16 v4 (fun j => 18 + j) fun (w20 : Nat) =>
(bd (fX10_drop n w20 s7) fun _ (s21 : PH) =>
(ra 16 v4 (fun j => 18 + j) fun (w22 : Nat) =>
(bd (fX4_left a1 v4 s21) fun (r24 : Int32) (s23 : PH) =>
(ra 6 r24 (fun j => 12 + j) fun (w25 : Nat) =>
(bd (fX3_putBefore n a1 v4 w25 s23) fun (w27 : Nat) (s26 : PH) =>
(bd (fX10_addAll n w22 w27 s26) fun (r29 : Int32) (s28 : PH) =>
(lt (v4 + (nI 1)) fun (v30 : Int32) =>
(recrec6 v30 s28)))))))))))) n v3 s2))))
set_option maxRecDepth 20000 in
set_option maxHeartbeats 2000000 in
theorem mX3_find (l : Launch) (n : Nat) (a1 : Nat) (s0 : PH) (ha1 : a1 < 6) : Ctv 148 l yX3_find cX3_find 3 none (rmOf 5 119) (fun E => [.ref (E.2.1 13), .ref (E.2.1 (gId a1 0))]) s0 (fX3_find n a1 s0) := by
  refine Ctv.of (by decide) rfl (lv := fun E => [(0, .ref (E.2.1 13)), (1, .ref (E.2.1 (gId a1 0)))]) (fun _ => Nat.le_of_ble_eq_true rfl) (fun _ => rfl) (fun Γ hΓ _ C => ?_)
  subst hΓ
  unfold fX3_find
  refine rf_aload_n C dX3_find_0 rfl 0 rfl ?_
  refine rf_aload_n C dX3_find_1 rfl 1 rfl ?_
  refine rf_callVv C (rmc := rmOf 4 94) [.ref ((gE Γ).2.1 (gId a1 0))] (by decide) (mX3_findFirsts (gL Γ) n a1 s0 ha1) mfX3_findFirsts mvX3_findFirsts mlX3_58 rfl oX3 rfl rfl rfl (Nat.le_of_ble_eq_true rfl) ⟨Nat.le_of_ble_eq_true rfl, Nat.le_of_ble_eq_true rfl⟩ dX3_find_2 (fun s1 => ?_)
  refine rf_aload_n C dX3_find_5 rfl 0 rfl ?_
  refine rf_aload_n C dX3_find_6 rfl 1 rfl ?_
  refine rf_callVv C (rmc := rmOf 4 95) [.ref ((gE Γ).2.1 (gId a1 0))] (by decide) (mX3_findFollows (gL Γ) n a1 s1 ha1) mfX3_findFollows mvX3_findFollows mlX3_62 rfl oX3 rfl rfl rfl (Nat.le_of_ble_eq_true rfl) ⟨Nat.le_of_ble_eq_true rfl, Nat.le_of_ble_eq_true rfl⟩ dX3_find_7 (fun s2 => ?_)
  refine rf_iconst C (v := (nI 0)) dX3_find_10 rfl ?_
  refine rf_istore_n C (fun v3 => [(2, .int v3), (0, .ref ((gE Γ).2.1 13)), (1, .ref ((gE Γ).2.1 (gId a1 0)))]) dX3_find_11 rfl (by decide) (fun _ => rfl) (fun v3 => ?_)
  refine rf_sub [1, 2, 0] rfl ?_
  refine rf_loo2 (fun _ _ => True) (fun _ s5 => s5) (fun v4 s5 => [(0, .ref ((gE Γ).2.1 13)), (1, .ref ((gE Γ).2.1 (gId a1 0))), (2, .int v4)]) (fun recrec6 hrec6 v4 s5 _ => ?_) n v3 s2 trivial
  refine rf_iload_n C dX3_find_12 rfl 2 rfl ?_
  refine rf_aload_n C dX3_find_13 rfl 1 rfl ?_
  refine rf_callVi C (rmc := rmOf 0 0) [] (by decide) (mX4_count (gL Γ) a1 s5 ha1) mfX4_count mvX4_count mlX3_65 rfl (oX4 ha1) rfl rfl rfl (Nat.le_of_ble_eq_true rfl) ⟨Nat.le_of_ble_eq_true rfl, Nat.le_of_ble_eq_true rfl⟩ dX3_find_14 (fun r8 s7 => ?_)
  refine rf_icmp_ge C 61 dX3_find_17 (by decide) (fun _ => ?_) (fun _ => ?_)
  · refine rf_iconst C (v := (nI 0)) dX3_find_61 rfl ?_
    refine rf_istore_n C (fun v9 => [(2, .int v9), (0, .ref ((gE Γ).2.1 13)), (1, .ref ((gE Γ).2.1 (gId a1 0)))]) dX3_find_62 rfl (by decide) (fun _ => rfl) (fun v9 => ?_)
    refine rf_sub [1, 2, 0] rfl ?_
    refine rf_loo2 (fun _ _ => True) (fun _ s11 => s11) (fun v10 s11 => [(0, .ref ((gE Γ).2.1 13)), (1, .ref ((gE Γ).2.1 (gId a1 0))), (2, .int v10)]) (fun recrec12 hrec12 v10 s11 _ => ?_) n v9 s7 trivial
    refine rf_iload_n C dX3_find_63 rfl 2 rfl ?_
    refine rf_bipush C (v := (nI 6)) dX3_find_64 rfl ?_
    refine rf_icmp_ge C 99 dX3_find_66 (by decide) (fun _ => ?_) (fun _ => ?_)
    · exact rf_vret C dX3_find_99
    refine rf_aload_n C dX3_find_69 rfl 0 rfl ?_
    refine rf_get C (v := .ref ((gE Γ).2.1 19)) cfX3 flX3_38 (by decide) oX3 rfl dX3_find_70 ?_
    refine rf_iload_n C dX3_find_73 rfl 2 rfl ?_
    refine rf_aload_n C dX3_find_74 rfl 0 rfl ?_
    refine rf_aload_n C dX3_find_75 rfl 1 rfl ?_
    refine rf_iload_n C dX3_find_76 rfl 2 rfl ?_
    refine rf_callVi C (rmc := rmOf 2 48) [.ref ((gE Γ).2.1 (gId a1 0)), .int v10] (by decide) (mX3_findDepth (gL Γ) n a1 v10 s11 ha1) mfX3_findDepth mvX3_findDepth mlX3_86 rfl oX3 rfl rfl rfl (Nat.le_of_ble_eq_true rfl) ⟨Nat.le_of_ble_eq_true rfl, Nat.le_of_ble_eq_true rfl⟩ dX3_find_77 (fun r14 s13 => ?_)
    refine rf_iast C ar19 dX3_find_80 (fun s15 => ?_)
    refine rf_aload_n C dX3_find_81 rfl 0 rfl ?_
    refine rf_get C (v := .ref ((gE Γ).2.1 20)) cfX3 flX3_42 (by decide) oX3 rfl dX3_find_82 ?_
    refine rf_iload_n C dX3_find_85 rfl 2 rfl ?_
    refine rf_aload_n C dX3_find_86 rfl 0 rfl ?_
    refine rf_aload_n C dX3_find_87 rfl 1 rfl ?_
    refine rf_iload_n C dX3_find_88 rfl 2 rfl ?_
    refine rf_callVi C (rmc := rmOf 3 70) [.ref ((gE Γ).2.1 (gId a1 0)), .int v10] (by decide) (mX3_findRoughDepth (gL Γ) n a1 v10 s15 ha1) mfX3_findRoughDepth mvX3_findRoughDepth mlX3_90 rfl oX3 rfl rfl rfl (Nat.le_of_ble_eq_true rfl) ⟨Nat.le_of_ble_eq_true rfl, Nat.le_of_ble_eq_true rfl⟩ dX3_find_89 (fun r17 s16 => ?_)
    refine rf_iast C ar20 dX3_find_92 (fun s18 => ?_)
    refine rf_iinc C (fun v19 => [(2, .int v19), (0, .ref ((gE Γ).2.1 13)), (1, .ref ((gE Γ).2.1 (gId a1 0)))]) dX3_find_93 2 rfl rfl (by decide) (fun _ => rfl) (fun v19 => ?_)
    refine rf_goto C 63 dX3_find_96 (by decide) ?_
    exact rf_sub [1, 2, 0] rfl (hrec12 v19 s18 trivial)
  refine rf_aload_n C dX3_find_20 rfl 0 rfl ?_
  refine rf_get C (v := .ref ((gE Γ).2.1 17)) cfX3 flX3_32 (by decide) oX3 rfl dX3_find_21 ?_
  refine rf_iload_n C dX3_find_24 rfl 2 rfl ?_
  refine rf_aldW C ar17 dX3_find_25 (fun w20 hw20 => ?_)
  refine rf_callVv C (rmc := rmOf 1 24) [] (by decide) (mX10_drop (gL Γ) n w20 s7 (Nat.lt_of_lt_of_le hw20 (by decide))) mfX10_drop mvX10_drop mlX3_71 rfl (oX10 (Nat.lt_of_lt_of_le hw20 (by decide))) rfl rfl rfl (Nat.le_of_ble_eq_true rfl) ⟨Nat.le_of_ble_eq_true rfl, Nat.le_of_ble_eq_true rfl⟩ dX3_find_26 (fun s21 => ?_)
  refine rf_aload_n C dX3_find_29 rfl 0 rfl ?_
  refine rf_get C (v := .ref ((gE Γ).2.1 17)) cfX3 flX3_32 (by decide) oX3 rfl dX3_find_30 ?_
  refine rf_iload_n C dX3_find_33 rfl 2 rfl ?_
  refine rf_aldW C ar17 dX3_find_34 (fun w22 hw22 => ?_)
  refine rf_aload_n C dX3_find_35 rfl 0 rfl ?_
  refine rf_aload_n C dX3_find_36 rfl 1 rfl ?_
  refine rf_iload_n C dX3_find_37 rfl 2 rfl ?_
  refine rf_aload_n C dX3_find_38 rfl 0 rfl ?_
  refine rf_get C (v := .ref ((gE Γ).2.1 16)) cfX3 flX3_29 (by decide) oX3 rfl dX3_find_39 ?_
  refine rf_aload_n C dX3_find_42 rfl 1 rfl ?_
  refine rf_iload_n C dX3_find_43 rfl 2 rfl ?_
  refine rf_callVi C (rmc := rmOf 0 0) [.int v4] (by decide) (mX4_left (gL Γ) a1 v4 s21 ha1) mfX4_left mvX4_left mlX3_74 rfl (oX4 ha1) rfl rfl rfl (Nat.le_of_ble_eq_true rfl) ⟨Nat.le_of_ble_eq_true rfl, Nat.le_of_ble_eq_true rfl⟩ dX3_find_44 (fun r24 s23 => ?_)
  refine rf_aldW C ar16 dX3_find_47 (fun w25 hw25 => ?_)
  refine rf_callVw C (rmc := rmOf 3 68) [.ref ((gE Γ).2.1 (gId a1 0)), .int v4, .ref ((gE Γ).2.1 (wId w25 0))] (by decide) (mX3_putBefore (gL Γ) n a1 v4 w25 s23 ha1 (Nat.lt_of_lt_of_le hw25 (by decide))) mfX3_putBefore mvX3_putBefore mlX3_78 rfl oX3 rfl rfl rfl (Nat.le_of_ble_eq_true rfl) ⟨Nat.le_of_ble_eq_true rfl, Nat.le_of_ble_eq_true rfl⟩ dX3_find_48 (fun w27 s26 hw27 => ?_)
  refine rf_callVi C (rmc := rmOf 0 0) [.ref ((gE Γ).2.1 (wId w27 0))] (by decide) (mX10_addAll (gL Γ) n w22 w27 s26 (Nat.lt_of_lt_of_le hw22 (by decide)) hw27) mfX10_addAll mvX10_addAll mlX3_82 rfl (oX10 (Nat.lt_of_lt_of_le hw22 (by decide))) rfl rfl rfl (Nat.le_of_ble_eq_true rfl) ⟨Nat.le_of_ble_eq_true rfl, Nat.le_of_ble_eq_true rfl⟩ dX3_find_51 (fun r29 s28 => ?_)
  refine rf_pop C dX3_find_54 rfl ?_
  refine rf_iinc C (fun v30 => [(2, .int v30), (0, .ref ((gE Γ).2.1 13)), (1, .ref ((gE Γ).2.1 (gId a1 0)))]) dX3_find_55 2 rfl rfl (by decide) (fun _ => rfl) (fun v30 => ?_)
  refine rf_goto C 12 dX3_find_58 (by decide) ?_
  exact rf_sub [1, 2, 0] rfl (hrec6 v30 s28 trivial)

def fX2_forget (s0 : PH) : Option (Unit × PH) :=
(lt (si s0 24 5 (nI 0)) fun (s1 : PH) =>
(lt (si s1 24 6 (nI 0)) fun (s2 : PH) =>
(some ((), s2))))
set_option maxRecDepth 20000 in
set_option maxHeartbeats 2000000 in
theorem mX2_forget (l : Launch) (s0 : PH) : Ctv 148 l yX2_forget cX2_forget 1 none (rmOf 0 0) (fun E => [.ref (E.2.1 24)]) s0 (fX2_forget s0) := by
  refine Ctv.of (by decide) rfl (lv := fun E => [(0, .ref (E.2.1 24))]) (fun _ => Nat.le_of_ble_eq_true rfl) (fun _ => rfl) (fun Γ hΓ _ C => ?_)
  subst hΓ
  unfold fX2_forget
  refine rf_aload_n C dX2_forget_0 rfl 0 rfl ?_
  refine rf_iconst C (v := (nI 0)) dX2_forget_1 rfl ?_
  refine rf_puti C cfX2 flX2_33 (by decide) rfl oX2 (fty := .boolean) rfl rfl rfl (fun _ _ _ _ => Nat.le_of_ble_eq_true rfl) (fun _ _ _ _ => rfl) dX2_forget_2 (fun s1 => ?_)
  refine rf_aload_n C dX2_forget_5 rfl 0 rfl ?_
  refine rf_iconst C (v := (nI 0)) dX2_forget_6 rfl ?_
  refine rf_puti C cfX2 flX2_37 (by decide) rfl oX2 (fty := .boolean) rfl rfl rfl (fun _ _ _ _ => Nat.le_of_ble_eq_true rfl) (fun _ _ _ _ => rfl) dX2_forget_7 (fun s2 => ?_)
  exact rf_vret C dX2_forget_10

def fX0_forget (s0 : PH) : Option (Unit × PH) :=
(lt (si s0 29 1 (nI 0)) fun (s1 : PH) =>
(some ((), s1)))
set_option maxRecDepth 20000 in
set_option maxHeartbeats 2000000 in
theorem mX0_forget (l : Launch) (s0 : PH) : Ctv 148 l yX0_forget cX0_forget 1 none (rmOf 0 0) (fun E => [.ref (E.2.1 29)]) s0 (fX0_forget s0) := by
  refine Ctv.of (by decide) rfl (lv := fun E => [(0, .ref (E.2.1 29))]) (fun _ => Nat.le_of_ble_eq_true rfl) (fun _ => rfl) (fun Γ hΓ _ C => ?_)
  subst hΓ
  unfold fX0_forget
  refine rf_aload_n C dX0_forget_0 rfl 0 rfl ?_
  refine rf_iconst C (v := (nI 0)) dX0_forget_1 rfl ?_
  refine rf_puti C cfX0 flX0_20 (by decide) rfl oX0 (fty := .boolean) rfl rfl rfl (fun _ _ _ _ => Nat.le_of_ble_eq_true rfl) (fun _ _ _ _ => rfl) dX0_forget_2 (fun s1 => ?_)
  exact rf_vret C dX0_forget_5

def fX11_study (n : Nat) (s0 : PH) : Option (Unit × PH) :=
(lt (s0.2.2 0 8) fun (g1 : Nat) =>
(bd (fX9_find n g1 s0) fun _ (s2 : PH) =>
(lt (s2.2.2 0 8) fun (g3 : Nat) =>
(bd (fX3_find n g3 s2) fun _ (s4 : PH) =>
(bd (fX2_forget s4) fun _ (s5 : PH) =>
(bd (fX0_forget s5) fun _ (s6 : PH) =>
(some ((), s6))))))))
set_option maxRecDepth 20000 in
set_option maxHeartbeats 2000000 in
theorem mX11_study (l : Launch) (n : Nat) (s0 : PH) : Ctv 148 l yX11_study cX11_study 1 none (rmOf 6 141) (fun E => [.ref (E.2.1 0)]) s0 (fX11_study n s0) := by
  refine Ctv.of (by decide) rfl (lv := fun E => [(0, .ref (E.2.1 0))]) (fun _ => Nat.le_of_ble_eq_true rfl) (fun _ => rfl) (fun Γ hΓ _ C => ?_)
  subst hΓ
  unfold fX11_study
  refine rf_aload_n C dX11_study_0 rfl 0 rfl ?_
  refine rf_get C (v := .ref ((gE Γ).2.1 7)) cfX11 flX11_33 (by decide) oX11 rfl dX11_study_1 ?_
  refine rf_aload_n C dX11_study_4 rfl 0 rfl ?_
  refine rf_getG C cfX11 flX11_68 (by decide) oX11 (fun _ _ _ _ => rfl) dX11_study_5 (fun g1 hg1 => ?_)
  refine rf_callVv C (rmc := rmOf 3 72) [.ref ((gE Γ).2.1 (gId g1 0))] (by decide) (mX9_find (gL Γ) n g1 s0 hg1) mfX9_find mvX9_find mlX11_280 rfl oX9 rfl rfl rfl (Nat.le_of_ble_eq_true rfl) ⟨Nat.le_of_ble_eq_true rfl, Nat.le_of_ble_eq_true rfl⟩ dX11_study_8 (fun s2 => ?_)
  refine rf_aload_n C dX11_study_11 rfl 0 rfl ?_
  refine rf_get C (v := .ref ((gE Γ).2.1 13)) cfX11 flX11_40 (by decide) oX11 rfl dX11_study_12 ?_
  refine rf_aload_n C dX11_study_15 rfl 0 rfl ?_
  refine rf_getG C cfX11 flX11_68 (by decide) oX11 (fun _ _ _ _ => rfl) dX11_study_16 (fun g3 hg3 => ?_)
  refine rf_callVv C (rmc := rmOf 5 119) [.ref ((gE Γ).2.1 (gId g3 0))] (by decide) (mX3_find (gL Γ) n g3 s2 hg3) mfX3_find mvX3_find mlX11_284 rfl oX3 rfl rfl rfl (Nat.le_of_ble_eq_true rfl) ⟨Nat.le_of_ble_eq_true rfl, Nat.le_of_ble_eq_true rfl⟩ dX11_study_19 (fun s4 => ?_)
  refine rf_aload_n C dX11_study_22 rfl 0 rfl ?_
  refine rf_get C (v := .ref ((gE Γ).2.1 24)) cfX11 flX11_54 (by decide) oX11 rfl dX11_study_23 ?_
  refine rf_callVv C (rmc := rmOf 0 0) [] (by decide) (mX2_forget (gL Γ) s4) mfX2_forget mvX2_forget mlX11_87 rfl oX2 rfl rfl rfl (Nat.le_of_ble_eq_true rfl) ⟨Nat.le_of_ble_eq_true rfl, Nat.le_of_ble_eq_true rfl⟩ dX11_study_26 (fun s5 => ?_)
  refine rf_aload_n C dX11_study_29 rfl 0 rfl ?_
  refine rf_get C (v := .ref ((gE Γ).2.1 29)) cfX11 flX11_61 (by decide) oX11 rfl dX11_study_30 ?_
  refine rf_callVv C (rmc := rmOf 0 0) [] (by decide) (mX0_forget (gL Γ) s5) mfX0_forget mvX0_forget mlX11_285 rfl oX0 rfl rfl rfl (Nat.le_of_ble_eq_true rfl) ⟨Nat.le_of_ble_eq_true rfl, Nat.le_of_ble_eq_true rfl⟩ dX11_study_33 (fun s6 => ?_)
  exact rf_vret C dX11_study_36

def fX4_open (t : Nat) (a1 : Int32) (s0 : PH) : Option (Int32 × PH) :=
(if (nI 16) ≤ (s0.1 (gId t 0) 5) then
(some ((nI 0), s0))
else
(if a1 < 0 then
(some ((nI 0), s0))
else
(if a1 < (nI 6) then
(bd (fX11_bit (s0.1 (gId t 0) 6) a1 s0) fun (r2 : Int32) (s1 : PH) =>
(jn (fun (s3 : PH) =>
(wa 16 (s3.1 (gId t 0) 5) (lt (si s3 (gId t 1) (s3.1 (gId t 0) 5).toNatClampNeg a1) fun (s5 : PH) =>
(wa 16 (s5.1 (gId t 0) 5) (lt (si s5 (gId t 2) (s5.1 (gId t 0) 5).toNatClampNeg (nI 0)) fun (s6 : PH) =>
(lt (si s6 (gId t 0) 5 ((s6.1 (gId t 0) 5) + (nI 1))) fun (s7 : PH) =>
(wa 6 a1 (lt (si s7 (gId t 5) a1.toNatClampNeg (s7.1 (gId t 0) 5)) fun (s8 : PH) =>
(some ((nI 1), s8)))))))))) (fun (j4 : PH → Option (Int32 × PH)) =>
(if r2 = 0 then
(lt (si s1 (gId t 0) 6 ((s1.1 (gId t 0) 6) ||| ((nI 1) <<< (a1 &&& 31)))) fun (s9 : PH) =>
(wa 6 a1 (lt (si s9 (gId t 4) a1.toNatClampNeg (s9.1 (gId t 0) 5)) fun (s10 : PH) =>
(j4 s10))))
else
(j4 s1)))))
else
(some ((nI 0), s0)))))
set_option maxRecDepth 20000 in
set_option maxHeartbeats 2000000 in
theorem mX4_open (l : Launch) (t : Nat) (a1 : Int32) (s0 : PH) (ht : t < 6) : Cti 148 l yX4_open cX4_open 2 (some .boolean) (rmOf 1 21) (fun E => [.ref (E.2.1 (gId t 0)), .int a1]) s0 (fX4_open t a1 s0) := by
  refine Cti.of (by decide) rfl (lv := fun E => [(0, .ref (E.2.1 (gId t 0))), (1, .int a1)]) (fun _ => Nat.le_of_ble_eq_true rfl) (fun _ => rfl) (fun Γ hΓ _ C => ?_)
  subst hΓ
  unfold fX4_open
  refine rf_aload_n C dX4_open_0 rfl 0 rfl ?_
  refine rf_get C (v := .int (s0.1 (gId t 0) 5)) cfX4 flX4_27 (by decide) (oX4 ht) rfl dX4_open_1 ?_
  refine rf_bipush C (v := (nI 16)) dX4_open_4 rfl ?_
  refine rf_icmp_ge C 19 dX4_open_6 (by decide) (fun _ => ?_) (fun _ => ?_)
  · refine rf_iconst C (v := (nI 0)) dX4_open_19 rfl ?_
    exact rf_zret C rfl dX4_open_20
  refine rf_iload_n C dX4_open_9 rfl 1 rfl ?_
  refine rf_if_lt C 19 dX4_open_10 (by decide) (fun _ => ?_) (fun _ => ?_)
  · refine rf_iconst C (v := (nI 0)) dX4_open_19 rfl ?_
    exact rf_zret C rfl dX4_open_20
  refine rf_iload_n C dX4_open_13 rfl 1 rfl ?_
  refine rf_bipush C (v := (nI 6)) dX4_open_14 rfl ?_
  refine rf_icmp_lt C 21 dX4_open_16 (by decide) (fun _ => ?_) (fun _ => ?_)
  · refine rf_aload_n C dX4_open_21 rfl 0 rfl ?_
    refine rf_get C (v := .int (s0.1 (gId t 0) 6)) cfX4 flX4_31 (by decide) (oX4 ht) rfl dX4_open_22 ?_
    refine rf_iload_n C dX4_open_25 rfl 1 rfl ?_
    refine rf_callSNi C (rmc := rmOf 0 0) [.int (s0.1 (gId t 0) 6), .int a1] (by decide) (mX11_bit (gL Γ) (s0.1 (gId t 0) 6) a1 s0) mfX11_bit msX11_bit (by decide) rfl rfl rfl (Nat.le_of_ble_eq_true rfl) ⟨Nat.le_of_ble_eq_true rfl, Nat.le_of_ble_eq_true rfl⟩ dX4_open_26 (fun r2 s1 => ?_)
    refine rf_jn1 (fun _ => True) (fun  s3 => s3) (fun s3 => [(0, .ref ((gE Γ).2.1 (gId t 0))), (1, .int a1)]) (fun s3 => []) 54 (fun s3 _ => ?_) (fun j4 hj4 => ?_)
    · refine rf_aload_n C dX4_open_54 rfl 0 rfl ?_
      refine rf_get C (v := .ref ((gE Γ).2.1 (gId t 1))) cfX4 flX4_9 (by decide) (oX4 ht) rfl dX4_open_55 ?_
      refine rf_aload_n C dX4_open_58 rfl 0 rfl ?_
      refine rf_get C (v := .int (s3.1 (gId t 0) 5)) cfX4 flX4_27 (by decide) (oX4 ht) rfl dX4_open_59 ?_
      refine rf_iload_n C dX4_open_62 rfl 1 rfl ?_
      refine rf_iast C (arG1 ht) dX4_open_63 (fun s5 => ?_)
      refine rf_aload_n C dX4_open_64 rfl 0 rfl ?_
      refine rf_get C (v := .ref ((gE Γ).2.1 (gId t 2))) cfX4 flX4_15 (by decide) (oX4 ht) rfl dX4_open_65 ?_
      refine rf_aload_n C dX4_open_68 rfl 0 rfl ?_
      refine rf_get C (v := .int (s5.1 (gId t 0) 5)) cfX4 flX4_27 (by decide) (oX4 ht) rfl dX4_open_69 ?_
      refine rf_iconst C (v := (nI 0)) dX4_open_72 rfl ?_
      refine rf_iast C (arG2 ht) dX4_open_73 (fun s6 => ?_)
      refine rf_aload_n C dX4_open_74 rfl 0 rfl ?_
      refine rf_dup C dX4_open_75 rfl ?_
      refine rf_get C (v := .int (s6.1 (gId t 0) 5)) cfX4 flX4_27 (by decide) (oX4 ht) rfl dX4_open_76 ?_
      refine rf_iconst C (v := (nI 1)) dX4_open_79 rfl ?_
      refine rf_iadd C dX4_open_80 ?_
      refine rf_puti C cfX4 flX4_27 (by decide) rfl (oX4 ht) (fty := .int) rfl rfl rfl (fun _ _ _ _ => Nat.le_of_ble_eq_true rfl) (fun _ _ _ _ => rfl) dX4_open_81 (fun s7 => ?_)
      refine rf_aload_n C dX4_open_84 rfl 0 rfl ?_
      refine rf_get C (v := .ref ((gE Γ).2.1 (gId t 5))) cfX4 flX4_24 (by decide) (oX4 ht) rfl dX4_open_85 ?_
      refine rf_iload_n C dX4_open_88 rfl 1 rfl ?_
      refine rf_aload_n C dX4_open_89 rfl 0 rfl ?_
      refine rf_get C (v := .int (s7.1 (gId t 0) 5)) cfX4 flX4_27 (by decide) (oX4 ht) rfl dX4_open_90 ?_
      refine rf_iast C (arG5 ht) dX4_open_93 (fun s8 => ?_)
      refine rf_iconst C (v := (nI 1)) dX4_open_94 rfl ?_
      exact rf_zret C rfl dX4_open_95
    refine rf_if_ne C 54 dX4_open_29 (by decide) (fun _ => ?_) (fun _ => ?_)
    · exact rf_sub [0, 1] rfl (hj4 s1 trivial)
    refine rf_aload_n C dX4_open_32 rfl 0 rfl ?_
    refine rf_dup C dX4_open_33 rfl ?_
    refine rf_get C (v := .int (s1.1 (gId t 0) 6)) cfX4 flX4_31 (by decide) (oX4 ht) rfl dX4_open_34 ?_
    refine rf_iconst C (v := (nI 1)) dX4_open_37 rfl ?_
    refine rf_iload_n C dX4_open_38 rfl 1 rfl ?_
    refine rf_ishl C dX4_open_39 ?_
    refine rf_ior C dX4_open_40 ?_
    refine rf_puti C cfX4 flX4_31 (by decide) rfl (oX4 ht) (fty := .int) rfl rfl rfl (fun _ _ _ _ => Nat.le_of_ble_eq_true rfl) (fun _ _ _ _ => rfl) dX4_open_41 (fun s9 => ?_)
    refine rf_aload_n C dX4_open_44 rfl 0 rfl ?_
    refine rf_get C (v := .ref ((gE Γ).2.1 (gId t 4))) cfX4 flX4_21 (by decide) (oX4 ht) rfl dX4_open_45 ?_
    refine rf_iload_n C dX4_open_48 rfl 1 rfl ?_
    refine rf_aload_n C dX4_open_49 rfl 0 rfl ?_
    refine rf_get C (v := .int (s9.1 (gId t 0) 5)) cfX4 flX4_27 (by decide) (oX4 ht) rfl dX4_open_50 ?_
    refine rf_iast C (arG4 ht) dX4_open_53 (fun s10 => ?_)
    exact rf_sub [0, 1] rfl (hj4 s10 trivial)
  refine rf_iconst C (v := (nI 0)) dX4_open_19 rfl ?_
  exact rf_zret C rfl dX4_open_20

def fX10_addLetter (t : Nat) (a1 : Int32) (s0 : PH) : Option (Unit × PH) :=
(if a1 < 0 then
(some ((), s0))
else
(if (nI 5) ≤ a1 then
(some ((), s0))
else
(ra 6 (a1 + (nI 1)) (s0.2.1 (wId t 1)) fun (u1 : Int64) =>
(wa 6 (a1 + (nI 1)) (lt (sl s0 (wId t 1) (a1 + (nI 1)).toNatClampNeg (u1 ||| (1 : Int64))) fun (s2 : PH) =>
(lt (sl s2 (wId t 0) 1 ((s2.2.1 (wId t 0) 1) ||| ((1 : Int64) <<< ((a1 + (nI 1)).toInt64 &&& 63)))) fun (s3 : PH) =>
(lt (sl s3 (wId t 0) 2 ((s3.2.1 (wId t 0) 2) ||| ((1 : Int64) <<< ((a1 + (nI 1)).toInt64 &&& 63)))) fun (s4 : PH) =>
(some ((), s4)))))))))
set_option maxRecDepth 20000 in
set_option maxHeartbeats 2000000 in
theorem mX10_addLetter (l : Launch) (t : Nat) (a1 : Int32) (s0 : PH) (ht : t < 36) : Ctv 148 l yX10_addLetter cX10_addLetter 2 none (rmOf 0 0) (fun E => [.ref (E.2.1 (wId t 0)), .int a1]) s0 (fX10_addLetter t a1 s0) := by
  refine Ctv.of (by decide) rfl (lv := fun E => [(0, .ref (E.2.1 (wId t 0))), (1, .int a1)]) (fun _ => Nat.le_of_ble_eq_true rfl) (fun _ => rfl) (fun Γ hΓ _ C => ?_)
  subst hΓ
  unfold fX10_addLetter
  refine rf_iload_n C dX10_addLetter_0 rfl 1 rfl ?_
  refine rf_if_lt C 49 dX10_addLetter_1 (by decide) (fun _ => ?_) (fun _ => ?_)
  · exact rf_vret C dX10_addLetter_49
  refine rf_iload_n C dX10_addLetter_4 rfl 1 rfl ?_
  refine rf_iconst C (v := (nI 5)) dX10_addLetter_5 rfl ?_
  refine rf_icmp_ge C 49 dX10_addLetter_6 (by decide) (fun _ => ?_) (fun _ => ?_)
  · exact rf_vret C dX10_addLetter_49
  refine rf_aload_n C dX10_addLetter_9 rfl 0 rfl ?_
  refine rf_get C (v := .ref ((gE Γ).2.1 (wId t 1))) cfX10 flX10_9 (by decide) (oX10 ht) rfl dX10_addLetter_10 ?_
  refine rf_iload_n C dX10_addLetter_13 rfl 1 rfl ?_
  refine rf_iconst C (v := (nI 1)) dX10_addLetter_14 rfl ?_
  refine rf_iadd C dX10_addLetter_15 ?_
  refine rf_dup2 C dX10_addLetter_16 rfl rfl ?_
  refine rf_lald C (arW1 ht) dX10_addLetter_17 (fun u1 => ?_)
  refine rf_lconst C (v := (1 : Int64)) dX10_addLetter_18 rfl ?_
  refine rf_lor C dX10_addLetter_19 ?_
  refine rf_last C (arW1 ht) dX10_addLetter_20 (fun s2 => ?_)
  refine rf_aload_n C dX10_addLetter_21 rfl 0 rfl ?_
  refine rf_dup C dX10_addLetter_22 rfl ?_
  refine rf_get C (v := .long (s2.2.1 (wId t 0) 1)) cfX10 flX10_15 (by decide) (oX10 ht) rfl dX10_addLetter_23 ?_
  refine rf_lconst C (v := (1 : Int64)) dX10_addLetter_26 rfl ?_
  refine rf_iload_n C dX10_addLetter_27 rfl 1 rfl ?_
  refine rf_iconst C (v := (nI 1)) dX10_addLetter_28 rfl ?_
  refine rf_iadd C dX10_addLetter_29 ?_
  refine rf_lshl C dX10_addLetter_30 ?_
  refine rf_lor C dX10_addLetter_31 ?_
  refine rf_putl C cfX10 flX10_15 (by decide) rfl (oX10 ht) (fty := .long) rfl rfl rfl (fun _ _ _ _ => Nat.le_of_ble_eq_true rfl) (fun _ _ _ _ => rfl) dX10_addLetter_32 (fun s3 => ?_)
  refine rf_aload_n C dX10_addLetter_35 rfl 0 rfl ?_
  refine rf_dup C dX10_addLetter_36 rfl ?_
  refine rf_get C (v := .long (s3.2.1 (wId t 0) 2)) cfX10 flX10_19 (by decide) (oX10 ht) rfl dX10_addLetter_37 ?_
  refine rf_lconst C (v := (1 : Int64)) dX10_addLetter_40 rfl ?_
  refine rf_iload_n C dX10_addLetter_41 rfl 1 rfl ?_
  refine rf_iconst C (v := (nI 1)) dX10_addLetter_42 rfl ?_
  refine rf_iadd C dX10_addLetter_43 ?_
  refine rf_lshl C dX10_addLetter_44 ?_
  refine rf_lor C dX10_addLetter_45 ?_
  refine rf_putl C cfX10 flX10_19 (by decide) rfl (oX10 ht) (fty := .long) rfl rfl rfl (fun _ _ _ _ => Nat.le_of_ble_eq_true rfl) (fun _ _ _ _ => rfl) dX10_addLetter_46 (fun s4 => ?_)
  exact rf_vret C dX10_addLetter_49

def fX1_setEntry (t : Nat) (a1 : Int32) (a2 : Int32) (a3 : Int32) (s0 : PH) : Option (Unit × PH) :=
(wa 81 ((a1 * (nI 9)) + a2) (lt (si s0 (cId t 2) ((a1 * (nI 9)) + a2).toNatClampNeg (a3 * (nI 6))) fun (s1 : PH) =>
(some ((), s1))))
set_option maxRecDepth 20000 in
set_option maxHeartbeats 2000000 in
theorem mX1_setEntry (l : Launch) (t : Nat) (a1 : Int32) (a2 : Int32) (a3 : Int32) (s0 : PH) (ht : t < 2) : Ctv 148 l yX1_setEntry cX1_setEntry 4 none (rmOf 0 0) (fun E => [.ref (E.2.1 (cId t 0)), .int a1, .int a2, .int a3]) s0 (fX1_setEntry t a1 a2 a3 s0) := by
  refine Ctv.of (by decide) rfl (lv := fun E => [(0, .ref (E.2.1 (cId t 0))), (1, .int a1), (2, .int a2), (3, .int a3)]) (fun _ => Nat.le_of_ble_eq_true rfl) (fun _ => rfl) (fun Γ hΓ _ C => ?_)
  subst hΓ
  unfold fX1_setEntry
  refine rf_aload_n C dX1_setEntry_0 rfl 0 rfl ?_
  refine rf_get C (v := .ref ((gE Γ).2.1 (cId t 2))) cfX1 flX1_15 (by decide) (oX1 ht) rfl dX1_setEntry_1 ?_
  refine rf_iload_n C dX1_setEntry_4 rfl 1 rfl ?_
  refine rf_bipush C (v := (nI 9)) dX1_setEntry_5 rfl ?_
  refine rf_imul C dX1_setEntry_7 ?_
  refine rf_iload_n C dX1_setEntry_8 rfl 2 rfl ?_
  refine rf_iadd C dX1_setEntry_9 ?_
  refine rf_iload_n C dX1_setEntry_10 rfl 3 rfl ?_
  refine rf_bipush C (v := (nI 6)) dX1_setEntry_11 rfl ?_
  refine rf_imul C dX1_setEntry_13 ?_
  refine rf_iast C (arC2 ht) dX1_setEntry_14 (fun s1 => ?_)
  exact rf_vret C dX1_setEntry_15

def fX8_size (s0 : PH) : Option (Int32 × PH) :=
(some ((s0.1 1 1), s0))
set_option maxRecDepth 20000 in
set_option maxHeartbeats 2000000 in
theorem mX8_size (l : Launch) (s0 : PH) : Cti 148 l yX8_size cX8_size 1 (some .int) (rmOf 0 0) (fun E => [.ref (E.2.1 1)]) s0 (fX8_size s0) := by
  refine Cti.of (by decide) rfl (lv := fun E => [(0, .ref (E.2.1 1))]) (fun _ => Nat.le_of_ble_eq_true rfl) (fun _ => rfl) (fun Γ hΓ _ C => ?_)
  subst hΓ
  unfold fX8_size
  refine rf_aload_n C dX8_size_0 rfl 0 rfl ?_
  refine rf_get C (v := .int (s0.1 1 1)) cfX8 flX8_15 (by decide) oX8 rfl dX8_size_1 ?_
  exact rf_iret C dX8_size_4

def fX8_append (a1 : Int32) (s0 : PH) : Option (Unit × PH) :=
(if (nI 100) ≤ (s0.1 1 1) then
(some ((), s0))
else
(wa 100 (s0.1 1 1) (lt (si s0 2 (s0.1 1 1).toNatClampNeg a1) fun (s1 : PH) =>
(lt (si s1 1 1 ((s1.1 1 1) + (nI 1))) fun (s2 : PH) =>
(some ((), s2))))))
set_option maxRecDepth 20000 in
set_option maxHeartbeats 2000000 in
theorem mX8_append (l : Launch) (a1 : Int32) (s0 : PH) : Ctv 148 l yX8_append cX8_append 2 none (rmOf 0 0) (fun E => [.ref (E.2.1 1), .int a1]) s0 (fX8_append a1 s0) := by
  refine Ctv.of (by decide) rfl (lv := fun E => [(0, .ref (E.2.1 1)), (1, .int a1)]) (fun _ => Nat.le_of_ble_eq_true rfl) (fun _ => rfl) (fun Γ hΓ _ C => ?_)
  subst hΓ
  unfold fX8_append
  refine rf_aload_n C dX8_append_0 rfl 0 rfl ?_
  refine rf_get C (v := .int (s0.1 1 1)) cfX8 flX8_15 (by decide) oX8 rfl dX8_append_1 ?_
  refine rf_bipush C (v := (nI 100)) dX8_append_4 rfl ?_
  refine rf_icmp_ge C 29 dX8_append_6 (by decide) (fun _ => ?_) (fun _ => ?_)
  · exact rf_vret C dX8_append_29
  refine rf_aload_n C dX8_append_9 rfl 0 rfl ?_
  refine rf_get C (v := .ref ((gE Γ).2.1 2)) cfX8 flX8_9 (by decide) oX8 rfl dX8_append_10 ?_
  refine rf_aload_n C dX8_append_13 rfl 0 rfl ?_
  refine rf_get C (v := .int (s0.1 1 1)) cfX8 flX8_15 (by decide) oX8 rfl dX8_append_14 ?_
  refine rf_iload_n C dX8_append_17 rfl 1 rfl ?_
  refine rf_iast C ar2 dX8_append_18 (fun s1 => ?_)
  refine rf_aload_n C dX8_append_19 rfl 0 rfl ?_
  refine rf_dup C dX8_append_20 rfl ?_
  refine rf_get C (v := .int (s1.1 1 1)) cfX8 flX8_15 (by decide) oX8 rfl dX8_append_21 ?_
  refine rf_iconst C (v := (nI 1)) dX8_append_24 rfl ?_
  refine rf_iadd C dX8_append_25 ?_
  refine rf_puti C cfX8 flX8_15 (by decide) rfl oX8 (fty := .int) rfl rfl rfl (fun _ _ _ _ => Nat.le_of_ble_eq_true rfl) (fun _ _ _ _ => rfl) dX8_append_26 (fun s2 => ?_)
  exact rf_vret C dX8_append_29

def fX11_type (a1 : Int32) (s0 : PH) : Option (Int32 × PH) :=
(if a1 < (nI 33) then
(some ((-1 : Int32), s0))
else
(if a1 ≤ (nI 126) then
(bd (fX8_size s0) fun (r2 : Int32) (s1 : PH) =>
(if r2 < (nI 100) then
(bd (fX8_append a1 s1) fun _ (s3 : PH) =>
(bd (fX2_forget s3) fun _ (s4 : PH) =>
(bd (fX8_size s4) fun (r6 : Int32) (s5 : PH) =>
(some (r6, s5)))))
else
(some ((-3 : Int32), s1))))
else
(some ((-1 : Int32), s0))))
set_option maxRecDepth 20000 in
set_option maxHeartbeats 2000000 in
theorem mX11_type (l : Launch) (a1 : Int32) (s0 : PH) : Cti 148 l yX11_type cX11_type 2 (some .int) (rmOf 1 21) (fun E => [.ref (E.2.1 0), .int a1]) s0 (fX11_type a1 s0) := by
  refine Cti.of (by decide) rfl (lv := fun E => [(0, .ref (E.2.1 0)), (1, .int a1)]) (fun _ => Nat.le_of_ble_eq_true rfl) (fun _ => rfl) (fun Γ hΓ _ C => ?_)
  subst hΓ
  unfold fX11_type
  refine rf_iload_n C dX11_type_0 rfl 1 rfl ?_
  refine rf_bipush C (v := (nI 33)) dX11_type_1 rfl ?_
  refine rf_icmp_lt C 12 dX11_type_3 (by decide) (fun _ => ?_) (fun _ => ?_)
  · refine rf_iconst C (v := (-1 : Int32)) dX11_type_12 rfl ?_
    exact rf_iret C dX11_type_13
  refine rf_iload_n C dX11_type_6 rfl 1 rfl ?_
  refine rf_bipush C (v := (nI 126)) dX11_type_7 rfl ?_
  refine rf_icmp_le C 14 dX11_type_9 (by decide) (fun _ => ?_) (fun _ => ?_)
  · refine rf_aload_n C dX11_type_14 rfl 0 rfl ?_
    refine rf_get C (v := .ref ((gE Γ).2.1 1)) cfX11 flX11_10 (by decide) oX11 rfl dX11_type_15 ?_
    refine rf_callVi C (rmc := rmOf 0 0) [] (by decide) (mX8_size (gL Γ) s0) mfX8_size mvX8_size mlX11_79 rfl oX8 rfl rfl rfl (Nat.le_of_ble_eq_true rfl) ⟨Nat.le_of_ble_eq_true rfl, Nat.le_of_ble_eq_true rfl⟩ dX11_type_18 (fun r2 s1 => ?_)
    refine rf_bipush C (v := (nI 100)) dX11_type_21 rfl ?_
    refine rf_icmp_lt C 29 dX11_type_23 (by decide) (fun _ => ?_) (fun _ => ?_)
    · refine rf_aload_n C dX11_type_29 rfl 0 rfl ?_
      refine rf_get C (v := .ref ((gE Γ).2.1 1)) cfX11 flX11_10 (by decide) oX11 rfl dX11_type_30 ?_
      refine rf_iload_n C dX11_type_33 rfl 1 rfl ?_
      refine rf_callVv C (rmc := rmOf 0 0) [.int a1] (by decide) (mX8_append (gL Γ) a1 s1) mfX8_append mvX8_append mlX11_83 rfl oX8 rfl rfl rfl (Nat.le_of_ble_eq_true rfl) ⟨Nat.le_of_ble_eq_true rfl, Nat.le_of_ble_eq_true rfl⟩ dX11_type_34 (fun s3 => ?_)
      refine rf_aload_n C dX11_type_37 rfl 0 rfl ?_
      refine rf_get C (v := .ref ((gE Γ).2.1 24)) cfX11 flX11_54 (by decide) oX11 rfl dX11_type_38 ?_
      refine rf_callVv C (rmc := rmOf 0 0) [] (by decide) (mX2_forget (gL Γ) s3) mfX2_forget mvX2_forget mlX11_87 rfl oX2 rfl rfl rfl (Nat.le_of_ble_eq_true rfl) ⟨Nat.le_of_ble_eq_true rfl, Nat.le_of_ble_eq_true rfl⟩ dX11_type_41 (fun s4 => ?_)
      refine rf_aload_n C dX11_type_44 rfl 0 rfl ?_
      refine rf_get C (v := .ref ((gE Γ).2.1 1)) cfX11 flX11_10 (by decide) oX11 rfl dX11_type_45 ?_
      refine rf_callVi C (rmc := rmOf 0 0) [] (by decide) (mX8_size (gL Γ) s4) mfX8_size mvX8_size mlX11_79 rfl oX8 rfl rfl rfl (Nat.le_of_ble_eq_true rfl) ⟨Nat.le_of_ble_eq_true rfl, Nat.le_of_ble_eq_true rfl⟩ dX11_type_48 (fun r6 s5 => ?_)
      exact rf_iret C dX11_type_51
    refine rf_bipush C (v := (-3 : Int32)) dX11_type_26 rfl ?_
    exact rf_iret C dX11_type_28
  refine rf_iconst C (v := (-1 : Int32)) dX11_type_12 rfl ?_
  exact rf_iret C dX11_type_13

def fX8_drop (s0 : PH) : Option (Unit × PH) :=
(lt (si s0 1 1 (nI 0)) fun (s1 : PH) =>
(some ((), s1)))
set_option maxRecDepth 20000 in
set_option maxHeartbeats 2000000 in
theorem mX8_drop (l : Launch) (s0 : PH) : Ctv 148 l yX8_drop cX8_drop 1 none (rmOf 0 0) (fun E => [.ref (E.2.1 1)]) s0 (fX8_drop s0) := by
  refine Ctv.of (by decide) rfl (lv := fun E => [(0, .ref (E.2.1 1))]) (fun _ => Nat.le_of_ble_eq_true rfl) (fun _ => rfl) (fun Γ hΓ _ C => ?_)
  subst hΓ
  unfold fX8_drop
  refine rf_aload_n C dX8_drop_0 rfl 0 rfl ?_
  refine rf_iconst C (v := (nI 0)) dX8_drop_1 rfl ?_
  refine rf_puti C cfX8 flX8_15 (by decide) rfl oX8 (fty := .int) rfl rfl rfl (fun _ _ _ _ => Nat.le_of_ble_eq_true rfl) (fun _ _ _ _ => rfl) dX8_drop_2 (fun s1 => ?_)
  exact rf_vret C dX8_drop_5

def fX11_clear (s0 : PH) : Option (Int32 × PH) :=
(bd (fX8_size s0) fun (r2 : Int32) (s1 : PH) =>
(lt r2 fun (v3 : Int32) =>
(bd (fX8_drop s1) fun _ (s4 : PH) =>
(bd (fX2_forget s4) fun _ (s5 : PH) =>
(some (v3, s5))))))
set_option maxRecDepth 20000 in
set_option maxHeartbeats 2000000 in
theorem mX11_clear (l : Launch) (s0 : PH) : Cti 148 l yX11_clear cX11_clear 2 (some .int) (rmOf 1 20) (fun E => [.ref (E.2.1 0)]) s0 (fX11_clear s0) := by
  refine Cti.of (by decide) rfl (lv := fun E => [(0, .ref (E.2.1 0))]) (fun _ => Nat.le_of_ble_eq_true rfl) (fun _ => rfl) (fun Γ hΓ _ C => ?_)
  subst hΓ
  unfold fX11_clear
  refine rf_aload_n C dX11_clear_0 rfl 0 rfl ?_
  refine rf_get C (v := .ref ((gE Γ).2.1 1)) cfX11 flX11_10 (by decide) oX11 rfl dX11_clear_1 ?_
  refine rf_callVi C (rmc := rmOf 0 0) [] (by decide) (mX8_size (gL Γ) s0) mfX8_size mvX8_size mlX11_79 rfl oX8 rfl rfl rfl (Nat.le_of_ble_eq_true rfl) ⟨Nat.le_of_ble_eq_true rfl, Nat.le_of_ble_eq_true rfl⟩ dX11_clear_4 (fun r2 s1 => ?_)
  refine rf_istore_n C (fun v3 => [(1, .int v3), (0, .ref ((gE Γ).2.1 0))]) dX11_clear_7 rfl (by decide) (fun _ => rfl) (fun v3 => ?_)
  refine rf_aload_n C dX11_clear_8 rfl 1 rfl ?_
  refine rf_get C (v := .ref ((gE Γ).2.1 1)) cfX11 flX11_10 (by decide) oX11 rfl dX11_clear_9 ?_
  refine rf_callVv C (rmc := rmOf 0 0) [] (by decide) (mX8_drop (gL Γ) s1) mfX8_drop mvX8_drop mlX11_90 rfl oX8 rfl rfl rfl (Nat.le_of_ble_eq_true rfl) ⟨Nat.le_of_ble_eq_true rfl, Nat.le_of_ble_eq_true rfl⟩ dX11_clear_12 (fun s4 => ?_)
  refine rf_aload_n C dX11_clear_15 rfl 1 rfl ?_
  refine rf_get C (v := .ref ((gE Γ).2.1 24)) cfX11 flX11_54 (by decide) oX11 rfl dX11_clear_16 ?_
  refine rf_callVv C (rmc := rmOf 0 0) [] (by decide) (mX2_forget (gL Γ) s4) mfX2_forget mvX2_forget mlX11_87 rfl oX2 rfl rfl rfl (Nat.le_of_ble_eq_true rfl) ⟨Nat.le_of_ble_eq_true rfl, Nat.le_of_ble_eq_true rfl⟩ dX11_clear_19 (fun s5 => ?_)
  refine rf_iload_n C dX11_clear_22 rfl 0 rfl ?_
  exact rf_iret C dX11_clear_23

def fX4_drop (n : Nat) (t : Nat) (s0 : PH) : Option (Unit × PH) :=
(lt (si s0 (gId t 0) 5 (nI 0)) fun (s1 : PH) =>
(lt (si s1 (gId t 0) 6 (nI 0)) fun (s2 : PH) =>
(bd (fJ7_fill_53178 n (gId t 4) 6 (nI 0) s2) fun _ (s3 : PH) =>
(bd (fJ7_fill_53178 n (gId t 5) 6 (nI 0) s3) fun _ (s4 : PH) =>
(some ((), s4))))))
set_option maxRecDepth 20000 in
set_option maxHeartbeats 2000000 in
theorem mX4_drop (l : Launch) (n : Nat) (t : Nat) (s0 : PH) (ht : t < 6) : Ctv 148 l yX4_drop cX4_drop 1 none (rmOf 1 23) (fun E => [.ref (E.2.1 (gId t 0))]) s0 (fX4_drop n t s0) := by
  refine Ctv.of (by decide) rfl (lv := fun E => [(0, .ref (E.2.1 (gId t 0)))]) (fun _ => Nat.le_of_ble_eq_true rfl) (fun _ => rfl) (fun Γ hΓ _ C => ?_)
  subst hΓ
  unfold fX4_drop
  refine rf_aload_n C dX4_drop_0 rfl 0 rfl ?_
  refine rf_iconst C (v := (nI 0)) dX4_drop_1 rfl ?_
  refine rf_puti C cfX4 flX4_27 (by decide) rfl (oX4 ht) (fty := .int) rfl rfl rfl (fun _ _ _ _ => Nat.le_of_ble_eq_true rfl) (fun _ _ _ _ => rfl) dX4_drop_2 (fun s1 => ?_)
  refine rf_aload_n C dX4_drop_5 rfl 0 rfl ?_
  refine rf_iconst C (v := (nI 0)) dX4_drop_6 rfl ?_
  refine rf_puti C cfX4 flX4_31 (by decide) rfl (oX4 ht) (fty := .int) rfl rfl rfl (fun _ _ _ _ => Nat.le_of_ble_eq_true rfl) (fun _ _ _ _ => rfl) dX4_drop_7 (fun s2 => ?_)
  refine rf_aload_n C dX4_drop_10 rfl 0 rfl ?_
  refine rf_get C (v := .ref ((gE Γ).2.1 (gId t 4))) cfX4 flX4_21 (by decide) (oX4 ht) rfl dX4_drop_11 ?_
  refine rf_iconst C (v := (nI 0)) dX4_drop_14 rfl ?_
  refine rf_callSv C (rmc := rmOf 0 0) [.ref ((gE Γ).2.1 (gId t 4)), .int (nI 0)] (by decide) (mJ7_fill_53178 (gL Γ) n (gId t 4) 6 (nI 0) s2 (arG4 ht)) mfJ7_fill_53178 msJ7_fill_53178 mlX4_34 rfl rfl rfl (Nat.le_of_ble_eq_true rfl) ⟨Nat.le_of_ble_eq_true rfl, Nat.le_of_ble_eq_true rfl⟩ dX4_drop_15 (fun s3 => ?_)
  refine rf_aload_n C dX4_drop_18 rfl 0 rfl ?_
  refine rf_get C (v := .ref ((gE Γ).2.1 (gId t 5))) cfX4 flX4_24 (by decide) (oX4 ht) rfl dX4_drop_19 ?_
  refine rf_iconst C (v := (nI 0)) dX4_drop_22 rfl ?_
  refine rf_callSv C (rmc := rmOf 0 0) [.ref ((gE Γ).2.1 (gId t 5)), .int (nI 0)] (by decide) (mJ7_fill_53178 (gL Γ) n (gId t 5) 6 (nI 0) s3 (arG5 ht)) mfJ7_fill_53178 msJ7_fill_53178 mlX4_34 rfl rfl rfl (Nat.le_of_ble_eq_true rfl) ⟨Nat.le_of_ble_eq_true rfl, Nat.le_of_ble_eq_true rfl⟩ dX4_drop_23 (fun s4 => ?_)
  exact rf_vret C dX4_drop_26

def fX7_blame (a1 : Int32) (a2 : Int32) (s0 : PH) : Option (Unit × PH) :=
(lt (si s0 3 2 a1) fun (s1 : PH) =>
(lt (si s1 3 3 a2) fun (s2 : PH) =>
(some ((), s2))))
set_option maxRecDepth 20000 in
set_option maxHeartbeats 2000000 in
theorem mX7_blame (l : Launch) (a1 : Int32) (a2 : Int32) (s0 : PH) : Ctv 148 l yX7_blame cX7_blame 3 none (rmOf 0 0) (fun E => [.ref (E.2.1 3), .int a1, .int a2]) s0 (fX7_blame a1 a2 s0) := by
  refine Ctv.of (by decide) rfl (lv := fun E => [(0, .ref (E.2.1 3)), (1, .int a1), (2, .int a2)]) (fun _ => Nat.le_of_ble_eq_true rfl) (fun _ => rfl) (fun Γ hΓ _ C => ?_)
  subst hΓ
  unfold fX7_blame
  refine rf_aload_n C dX7_blame_0 rfl 0 rfl ?_
  refine rf_iload_n C dX7_blame_1 rfl 1 rfl ?_
  refine rf_puti C cfX7 flX7_22 (by decide) rfl oX7 (fty := .int) rfl rfl rfl (fun _ _ _ _ => Nat.le_of_ble_eq_true rfl) (fun _ _ _ _ => rfl) dX7_blame_2 (fun s1 => ?_)
  refine rf_aload_n C dX7_blame_5 rfl 0 rfl ?_
  refine rf_iload_n C dX7_blame_6 rfl 2 rfl ?_
  refine rf_puti C cfX7 flX7_26 (by decide) rfl oX7 (fty := .int) rfl rfl rfl (fun _ _ _ _ => Nat.le_of_ble_eq_true rfl) (fun _ _ _ _ => rfl) dX7_blame_7 (fun s2 => ?_)
  exact rf_vret C dX7_blame_10

def fX4_defined (t : Nat) (s0 : PH) : Option (Int32 × PH) :=
(some ((s0.1 (gId t 0) 6), s0))
set_option maxRecDepth 20000 in
set_option maxHeartbeats 2000000 in
theorem mX4_defined (l : Launch) (t : Nat) (s0 : PH) (ht : t < 6) : Cti 148 l yX4_defined cX4_defined 1 (some .int) (rmOf 0 0) (fun E => [.ref (E.2.1 (gId t 0))]) s0 (fX4_defined t s0) := by
  refine Cti.of (by decide) rfl (lv := fun E => [(0, .ref (E.2.1 (gId t 0)))]) (fun _ => Nat.le_of_ble_eq_true rfl) (fun _ => rfl) (fun Γ hΓ _ C => ?_)
  subst hΓ
  unfold fX4_defined
  refine rf_aload_n C dX4_defined_0 rfl 0 rfl ?_
  refine rf_get C (v := .int (s0.1 (gId t 0) 6)) cfX4 flX4_31 (by decide) (oX4 ht) rfl dX4_defined_1 ?_
  exact rf_iret C dX4_defined_4

def fX7_blameUndefined (n : Nat) (s0 : PH) : Option (Unit × PH) :=
(lt (nI 1000) fun (v1 : Int32) =>
(lt (nI 0) fun (v2 : Int32) =>
(loo3 (fun (recrec6 : Int32 → Int32 → PH → Option (Unit × PH)) (v3 : Int32) (v4 : Int32) (s5 : PH) =>
(if (nI 6) ≤ v4 then
(if v3 = (nI 1000) then
(some ((), s5))
else
(bd (fX7_blame (nI 5) v3 s5) fun _ (s7 : PH) =>
(some ((), s7))))
else
(lt (s5.2.2 3 1) fun (g8 : Nat) =>
(bd (fX4_defined g8 s5) fun (r10 : Int32) (s9 : PH) =>
(bd (fX11_bit r10 v4 s9) fun (r12 : Int32) (s11 : PH) =>
(jn (fun (v13 : Int32) (s14 : PH) =>
(lt (v4 + (nI 1)) fun (v16 : Int32) =>
(recrec6 v13 v16 s14))) (fun (j15 : Int32 → PH → Option (Unit × PH)) =>
(if r12 = 0 then
(ra 6 v4 (s11.1 4) fun (v17 : Int32) =>
(lt (if v17 < v3 then v17 else v3) fun (v18 : Int32) =>
(j15 v18 s11)))
else
(j15 v3 s11))))))))) n v1 v2 s0)))
set_option maxRecDepth 20000 in
set_option maxHeartbeats 2000000 in
theorem mX7_blameUndefined (l : Launch) (n : Nat) (s0 : PH) : Ctv 148 l yX7_blameUndefined cX7_blameUndefined 3 none (rmOf 1 22) (fun E => [.ref (E.2.1 3)]) s0 (fX7_blameUndefined n s0) := by
  refine Ctv.of (by decide) rfl (lv := fun E => [(0, .ref (E.2.1 3))]) (fun _ => Nat.le_of_ble_eq_true rfl) (fun _ => rfl) (fun Γ hΓ _ C => ?_)
  subst hΓ
  unfold fX7_blameUndefined
  refine rf_sipush C (v := (nI 1000)) dX7_blameUndefined_0 rfl ?_
  refine rf_istore_n C (fun v1 => [(1, .int v1), (0, .ref ((gE Γ).2.1 3))]) dX7_blameUndefined_3 rfl (by decide) (fun _ => rfl) (fun v1 => ?_)
  refine rf_iconst C (v := (nI 0)) dX7_blameUndefined_4 rfl ?_
  refine rf_istore_n C (fun v2 => [(2, .int v2), (1, .int v1), (0, .ref ((gE Γ).2.1 3))]) dX7_blameUndefined_5 rfl (by decide) (fun _ => rfl) (fun v2 => ?_)
  refine rf_sub [2, 1, 0] rfl ?_
  refine rf_loo3 (fun _ _ _ => True) (fun _ _ s5 => s5) (fun v3 v4 s5 => [(0, .ref ((gE Γ).2.1 3)), (1, .int v3), (2, .int v4)]) (fun recrec6 hrec6 v3 v4 s5 _ => ?_) n v1 v2 s0 trivial
  refine rf_iload_n C dX7_blameUndefined_6 rfl 2 rfl ?_
  refine rf_bipush C (v := (nI 6)) dX7_blameUndefined_7 rfl ?_
  refine rf_icmp_ge C 43 dX7_blameUndefined_9 (by decide) (fun _ => ?_) (fun _ => ?_)
  · refine rf_iload_n C dX7_blameUndefined_43 rfl 1 rfl ?_
    refine rf_sipush C (v := (nI 1000)) dX7_blameUndefined_44 rfl ?_
    refine rf_icmp_eq C 56 dX7_blameUndefined_47 (by decide) (fun _ => ?_) (fun _ => ?_)
    · exact rf_vret C dX7_blameUndefined_56
    refine rf_aload_n C dX7_blameUndefined_50 rfl 0 rfl ?_
    refine rf_iconst C (v := (nI 5)) dX7_blameUndefined_51 rfl ?_
    refine rf_iload_n C dX7_blameUndefined_52 rfl 1 rfl ?_
    refine rf_callVv C (rmc := rmOf 0 0) [.int (nI 5), .int v3] (by decide) (mX7_blame (gL Γ) (nI 5) v3 s5) mfX7_blame mvX7_blame mlX7_61 rfl oX7 rfl rfl rfl (Nat.le_of_ble_eq_true rfl) ⟨Nat.le_of_ble_eq_true rfl, Nat.le_of_ble_eq_true rfl⟩ dX7_blameUndefined_53 (fun s7 => ?_)
    exact rf_vret C dX7_blameUndefined_56
  refine rf_aload_n C dX7_blameUndefined_12 rfl 0 rfl ?_
  refine rf_getG C cfX7 flX7_18 (by decide) oX7 (fun _ _ _ _ => rfl) dX7_blameUndefined_13 (fun g8 hg8 => ?_)
  refine rf_callVi C (rmc := rmOf 0 0) [] (by decide) (mX4_defined (gL Γ) g8 s5 hg8) mfX4_defined mvX4_defined mlX7_81 rfl (oX4 hg8) rfl rfl rfl (Nat.le_of_ble_eq_true rfl) ⟨Nat.le_of_ble_eq_true rfl, Nat.le_of_ble_eq_true rfl⟩ dX7_blameUndefined_16 (fun r10 s9 => ?_)
  refine rf_iload_n C dX7_blameUndefined_19 rfl 2 rfl ?_
  refine rf_callSNi C (rmc := rmOf 0 0) [.int r10, .int v4] (by decide) (mX11_bit (gL Γ) r10 v4 s9) mfX11_bit msX11_bit (by decide) rfl rfl rfl (Nat.le_of_ble_eq_true rfl) ⟨Nat.le_of_ble_eq_true rfl, Nat.le_of_ble_eq_true rfl⟩ dX7_blameUndefined_20 (fun r12 s11 => ?_)
  refine rf_jn2 (fun _ _ => True) (fun _ s14 => s14) (fun v13 s14 => [(0, .ref ((gE Γ).2.1 3)), (1, .int v13), (2, .int v4)]) (fun v13 s14 => []) 37 (fun v13 s14 _ => ?_) (fun j15 hj15 => ?_)
  · refine rf_iinc C (fun v16 => [(2, .int v16), (0, .ref ((gE Γ).2.1 3)), (1, .int v13)]) dX7_blameUndefined_37 2 rfl rfl (by decide) (fun _ => rfl) (fun v16 => ?_)
    refine rf_goto C 6 dX7_blameUndefined_40 (by decide) ?_
    exact rf_sub [1, 2, 0] rfl (hrec6 v13 v16 s14 trivial)
  refine rf_if_ne C 37 dX7_blameUndefined_23 (by decide) (fun _ => ?_) (fun _ => ?_)
  · exact rf_sub [0, 1, 2] rfl (hj15 v3 s11 trivial)
  refine rf_iload_n C dX7_blameUndefined_26 rfl 1 rfl ?_
  refine rf_aload_n C dX7_blameUndefined_27 rfl 0 rfl ?_
  refine rf_get C (v := .ref ((gE Γ).2.1 4)) cfX7 flX7_9 (by decide) oX7 rfl dX7_blameUndefined_28 ?_
  refine rf_iload_n C dX7_blameUndefined_31 rfl 2 rfl ?_
  refine rf_iald C ar4 dX7_blameUndefined_32 (fun v17 => ?_)
  refine rf_mmin C mlX7_88 (Nat.le_of_ble_eq_true rfl) (Nat.le_of_ble_eq_true rfl) mthmin dX7_blameUndefined_33 ?_
  refine rf_istore_n C (fun v18 => [(1, .int v18), (0, .ref ((gE Γ).2.1 3)), (2, .int v4)]) dX7_blameUndefined_36 rfl (by decide) (fun _ => rfl) (fun v18 => ?_)
  exact rf_sub [1, 0, 2] rfl (hj15 v18 s11 trivial)

def fX8_at (a1 : Int32) (s0 : PH) : Option (Int32 × PH) :=
(if a1 < 0 then
(some ((-9 : Int32), s0))
else
(if (s0.1 1 1) ≤ a1 then
(some ((-9 : Int32), s0))
else
(ra 100 a1 (s0.1 2) fun (v1 : Int32) =>
(some (v1, s0)))))
set_option maxRecDepth 20000 in
set_option maxHeartbeats 2000000 in
theorem mX8_at (l : Launch) (a1 : Int32) (s0 : PH) : Cti 148 l yX8_at cX8_at 2 (some .int) (rmOf 0 0) (fun E => [.ref (E.2.1 1), .int a1]) s0 (fX8_at a1 s0) := by
  refine Cti.of (by decide) rfl (lv := fun E => [(0, .ref (E.2.1 1)), (1, .int a1)]) (fun _ => Nat.le_of_ble_eq_true rfl) (fun _ => rfl) (fun Γ hΓ _ C => ?_)
  subst hΓ
  unfold fX8_at
  refine rf_iload_n C dX8_at_0 rfl 1 rfl ?_
  refine rf_if_lt C 21 dX8_at_1 (by decide) (fun _ => ?_) (fun _ => ?_)
  · refine rf_bipush C (v := (-9 : Int32)) dX8_at_21 rfl ?_
    exact rf_iret C dX8_at_23
  refine rf_iload_n C dX8_at_4 rfl 1 rfl ?_
  refine rf_aload_n C dX8_at_5 rfl 0 rfl ?_
  refine rf_get C (v := .int (s0.1 1 1)) cfX8 flX8_15 (by decide) oX8 rfl dX8_at_6 ?_
  refine rf_icmp_ge C 21 dX8_at_9 (by decide) (fun _ => ?_) (fun _ => ?_)
  · refine rf_bipush C (v := (-9 : Int32)) dX8_at_21 rfl ?_
    exact rf_iret C dX8_at_23
  refine rf_aload_n C dX8_at_12 rfl 0 rfl ?_
  refine rf_get C (v := .ref ((gE Γ).2.1 2)) cfX8 flX8_9 (by decide) oX8 rfl dX8_at_13 ?_
  refine rf_iload_n C dX8_at_16 rfl 1 rfl ?_
  refine rf_iald C ar2 dX8_at_17 (fun v1 => ?_)
  refine rf_goto C 23 dX8_at_18 (by decide) ?_
  exact rf_iret C dX8_at_23

def fX7_openAlternative (a1 : Int32) (s0 : PH) : Option (Unit × PH) :=
(lt (si s0 3 4 (nI 2)) fun (s1 : PH) =>
(lt (s1.2.2 3 1) fun (g2 : Nat) =>
(bd (fX4_open g2 (s1.1 3 5) s1) fun (r4 : Int32) (s3 : PH) =>
(if r4 = 0 then
(bd (fX7_blame (nI 3) (a1 + (nI 1)) s3) fun _ (s5 : PH) =>
(some ((), s5)))
else
(some ((), s3))))))
set_option maxRecDepth 20000 in
set_option maxHeartbeats 2000000 in
theorem mX7_openAlternative (l : Launch) (a1 : Int32) (s0 : PH) : Ctv 148 l yX7_openAlternative cX7_openAlternative 2 none (rmOf 2 42) (fun E => [.ref (E.2.1 3), .int a1]) s0 (fX7_openAlternative a1 s0) := by
  refine Ctv.of (by decide) rfl (lv := fun E => [(0, .ref (E.2.1 3)), (1, .int a1)]) (fun _ => Nat.le_of_ble_eq_true rfl) (fun _ => rfl) (fun Γ hΓ _ C => ?_)
  subst hΓ
  unfold fX7_openAlternative
  refine rf_aload_n C dX7_openAlternative_0 rfl 0 rfl ?_
  refine rf_iconst C (v := (nI 2)) dX7_openAlternative_1 rfl ?_
  refine rf_puti C cfX7 flX7_29 (by decide) rfl oX7 (fty := .int) rfl rfl rfl (fun _ _ _ _ => Nat.le_of_ble_eq_true rfl) (fun _ _ _ _ => rfl) dX7_openAlternative_2 (fun s1 => ?_)
  refine rf_aload_n C dX7_openAlternative_5 rfl 0 rfl ?_
  refine rf_getG C cfX7 flX7_18 (by decide) oX7 (fun _ _ _ _ => rfl) dX7_openAlternative_6 (fun g2 hg2 => ?_)
  refine rf_aload_n C dX7_openAlternative_9 rfl 0 rfl ?_
  refine rf_get C (v := .int (s1.1 3 5)) cfX7 flX7_32 (by decide) oX7 rfl dX7_openAlternative_10 ?_
  refine rf_callVi C (rmc := rmOf 1 21) [.int (s1.1 3 5)] (by decide) (mX4_open (gL Γ) g2 (s1.1 3 5) s1 hg2) mfX4_open mvX4_open mlX7_99 rfl (oX4 hg2) rfl rfl rfl (Nat.le_of_ble_eq_true rfl) ⟨Nat.le_of_ble_eq_true rfl, Nat.le_of_ble_eq_true rfl⟩ dX7_openAlternative_13 (fun r4 s3 => ?_)
  refine rf_if_ne C 27 dX7_openAlternative_16 (by decide) (fun _ => ?_) (fun _ => ?_)
  · exact rf_vret C dX7_openAlternative_27
  refine rf_aload_n C dX7_openAlternative_19 rfl 0 rfl ?_
  refine rf_iconst C (v := (nI 3)) dX7_openAlternative_20 rfl ?_
  refine rf_iload_n C dX7_openAlternative_21 rfl 1 rfl ?_
  refine rf_iconst C (v := (nI 1)) dX7_openAlternative_22 rfl ?_
  refine rf_iadd C dX7_openAlternative_23 ?_
  refine rf_callVv C (rmc := rmOf 0 0) [.int (nI 3), .int (a1 + (nI 1))] (by decide) (mX7_blame (gL Γ) (nI 3) (a1 + (nI 1)) s3) mfX7_blame mvX7_blame mlX7_61 rfl oX7 rfl rfl rfl (Nat.le_of_ble_eq_true rfl) ⟨Nat.le_of_ble_eq_true rfl, Nat.le_of_ble_eq_true rfl⟩ dX7_openAlternative_24 (fun s5 => ?_)
  exact rf_vret C dX7_openAlternative_27

def fX7_isNonterminal (a1 : Int32) (s0 : PH) : Option (Int32 × PH) :=
(if a1 < (nI 65) then
(some ((nI 0), s0))
else
(if (nI 71) ≤ a1 then
(some ((nI 0), s0))
else
(some ((nI 1), s0))))
set_option maxRecDepth 20000 in
set_option maxHeartbeats 2000000 in
theorem mX7_isNonterminal (l : Launch) (a1 : Int32) (s0 : PH) : Cti 148 l yX7_isNonterminal cX7_isNonterminal 1 (some .boolean) (rmOf 0 0) (fun E => [.int a1]) s0 (fX7_isNonterminal a1 s0) := by
  refine Cti.of (by decide) rfl (lv := fun E => [(0, .int a1)]) (fun _ => Nat.le_of_ble_eq_true rfl) (fun _ => rfl) (fun Γ hΓ _ C => ?_)
  subst hΓ
  unfold fX7_isNonterminal
  refine rf_iload_n C dX7_isNonterminal_0 rfl 0 rfl ?_
  refine rf_bipush C (v := (nI 65)) dX7_isNonterminal_1 rfl ?_
  refine rf_icmp_lt C 16 dX7_isNonterminal_3 (by decide) (fun _ => ?_) (fun _ => ?_)
  · refine rf_iconst C (v := (nI 0)) dX7_isNonterminal_16 rfl ?_
    exact rf_zret C rfl dX7_isNonterminal_17
  refine rf_iload_n C dX7_isNonterminal_6 rfl 0 rfl ?_
  refine rf_bipush C (v := (nI 71)) dX7_isNonterminal_7 rfl ?_
  refine rf_icmp_ge C 16 dX7_isNonterminal_9 (by decide) (fun _ => ?_) (fun _ => ?_)
  · refine rf_iconst C (v := (nI 0)) dX7_isNonterminal_16 rfl ?_
    exact rf_zret C rfl dX7_isNonterminal_17
  refine rf_iconst C (v := (nI 1)) dX7_isNonterminal_12 rfl ?_
  refine rf_goto C 17 dX7_isNonterminal_13 (by decide) ?_
  exact rf_zret C rfl dX7_isNonterminal_17

def fX4_append (t : Nat) (a1 : Int32) (s0 : PH) : Option (Int32 × PH) :=
(lt ((s0.1 (gId t 0) 5) - (nI 1)) fun (v1 : Int32) =>
(if v1 < 0 then
(some ((nI 0), s0))
else
(ra 16 v1 (s0.1 (gId t 2)) fun (v2 : Int32) =>
(if v2 < (nI 5) then
(ra 16 v1 (s0.1 (gId t 2)) fun (v3 : Int32) =>
(wa 80 ((v1 * (nI 5)) + v3) (lt (si s0 (gId t 3) ((v1 * (nI 5)) + v3).toNatClampNeg a1) fun (s4 : PH) =>
(ra 16 v1 (s4.1 (gId t 2)) fun (v5 : Int32) =>
(wa 16 v1 (lt (si s4 (gId t 2) v1.toNatClampNeg (v5 + (nI 1))) fun (s6 : PH) =>
(some ((nI 1), s6))))))))
else
(some ((nI 0), s0))))))
set_option maxRecDepth 20000 in
set_option maxHeartbeats 2000000 in
theorem mX4_append (l : Launch) (t : Nat) (a1 : Int32) (s0 : PH) (ht : t < 6) : Cti 148 l yX4_append cX4_append 3 (some .boolean) (rmOf 0 0) (fun E => [.ref (E.2.1 (gId t 0)), .int a1]) s0 (fX4_append t a1 s0) := by
  refine Cti.of (by decide) rfl (lv := fun E => [(0, .ref (E.2.1 (gId t 0))), (1, .int a1)]) (fun _ => Nat.le_of_ble_eq_true rfl) (fun _ => rfl) (fun Γ hΓ _ C => ?_)
  subst hΓ
  unfold fX4_append
  refine rf_aload_n C dX4_append_0 rfl 0 rfl ?_
  refine rf_get C (v := .int (s0.1 (gId t 0) 5)) cfX4 flX4_27 (by decide) (oX4 ht) rfl dX4_append_1 ?_
  refine rf_iconst C (v := (nI 1)) dX4_append_4 rfl ?_
  refine rf_isub C dX4_append_5 ?_
  refine rf_istore_n C (fun v1 => [(2, .int v1), (0, .ref ((gE Γ).2.1 (gId t 0))), (1, .int a1)]) dX4_append_6 rfl (by decide) (fun _ => rfl) (fun v1 => ?_)
  refine rf_iload_n C dX4_append_7 rfl 0 rfl ?_
  refine rf_if_lt C 21 dX4_append_8 (by decide) (fun _ => ?_) (fun _ => ?_)
  · refine rf_iconst C (v := (nI 0)) dX4_append_21 rfl ?_
    exact rf_zret C rfl dX4_append_22
  refine rf_aload_n C dX4_append_11 rfl 1 rfl ?_
  refine rf_get C (v := .ref ((gE Γ).2.1 (gId t 2))) cfX4 flX4_15 (by decide) (oX4 ht) rfl dX4_append_12 ?_
  refine rf_iload_n C dX4_append_15 rfl 0 rfl ?_
  refine rf_iald C (arG2 ht) dX4_append_16 (fun v2 => ?_)
  refine rf_iconst C (v := (nI 5)) dX4_append_17 rfl ?_
  refine rf_icmp_lt C 23 dX4_append_18 (by decide) (fun _ => ?_) (fun _ => ?_)
  · refine rf_aload_n C dX4_append_23 rfl 1 rfl ?_
    refine rf_get C (v := .ref ((gE Γ).2.1 (gId t 3))) cfX4 flX4_18 (by decide) (oX4 ht) rfl dX4_append_24 ?_
    refine rf_iload_n C dX4_append_27 rfl 0 rfl ?_
    refine rf_iconst C (v := (nI 5)) dX4_append_28 rfl ?_
    refine rf_imul C dX4_append_29 ?_
    refine rf_aload_n C dX4_append_30 rfl 1 rfl ?_
    refine rf_get C (v := .ref ((gE Γ).2.1 (gId t 2))) cfX4 flX4_15 (by decide) (oX4 ht) rfl dX4_append_31 ?_
    refine rf_iload_n C dX4_append_34 rfl 0 rfl ?_
    refine rf_iald C (arG2 ht) dX4_append_35 (fun v3 => ?_)
    refine rf_iadd C dX4_append_36 ?_
    refine rf_iload_n C dX4_append_37 rfl 2 rfl ?_
    refine rf_iast C (arG3 ht) dX4_append_38 (fun s4 => ?_)
    refine rf_aload_n C dX4_append_39 rfl 1 rfl ?_
    refine rf_get C (v := .ref ((gE Γ).2.1 (gId t 2))) cfX4 flX4_15 (by decide) (oX4 ht) rfl dX4_append_40 ?_
    refine rf_iload_n C dX4_append_43 rfl 0 rfl ?_
    refine rf_dup2 C dX4_append_44 rfl rfl ?_
    refine rf_iald C (arG2 ht) dX4_append_45 (fun v5 => ?_)
    refine rf_iconst C (v := (nI 1)) dX4_append_46 rfl ?_
    refine rf_iadd C dX4_append_47 ?_
    refine rf_iast C (arG2 ht) dX4_append_48 (fun s6 => ?_)
    refine rf_iconst C (v := (nI 1)) dX4_append_49 rfl ?_
    exact rf_zret C rfl dX4_append_50
  refine rf_iconst C (v := (nI 0)) dX4_append_21 rfl ?_
  exact rf_zret C rfl dX4_append_22

def fX7_readSymbol (a1 : Int32) (a2 : Int32) (s0 : PH) : Option (Unit × PH) :=
(lt (s0.2.2 3 1) fun (g1 : Nat) =>
(bd (fX4_append g1 a1 s0) fun (r3 : Int32) (s2 : PH) =>
(if r3 = 0 then
(bd (fX7_blame (nI 4) a2 s2) fun _ (s4 : PH) =>
(some ((), s4)))
else
(some ((), s2)))))
set_option maxRecDepth 20000 in
set_option maxHeartbeats 2000000 in
theorem mX7_readSymbol (l : Launch) (a1 : Int32) (a2 : Int32) (s0 : PH) : Ctv 148 l yX7_readSymbol cX7_readSymbol 3 none (rmOf 1 22) (fun E => [.ref (E.2.1 3), .int a1, .int a2]) s0 (fX7_readSymbol a1 a2 s0) := by
  refine Ctv.of (by decide) rfl (lv := fun E => [(0, .ref (E.2.1 3)), (1, .int a1), (2, .int a2)]) (fun _ => Nat.le_of_ble_eq_true rfl) (fun _ => rfl) (fun Γ hΓ _ C => ?_)
  subst hΓ
  unfold fX7_readSymbol
  refine rf_aload_n C dX7_readSymbol_0 rfl 0 rfl ?_
  refine rf_getG C cfX7 flX7_18 (by decide) oX7 (fun _ _ _ _ => rfl) dX7_readSymbol_1 (fun g1 hg1 => ?_)
  refine rf_iload_n C dX7_readSymbol_4 rfl 1 rfl ?_
  refine rf_callVi C (rmc := rmOf 0 0) [.int a1] (by decide) (mX4_append (gL Γ) g1 a1 s0 hg1) mfX4_append mvX4_append mlX7_96 rfl (oX4 hg1) rfl rfl rfl (Nat.le_of_ble_eq_true rfl) ⟨Nat.le_of_ble_eq_true rfl, Nat.le_of_ble_eq_true rfl⟩ dX7_readSymbol_5 (fun r3 s2 => ?_)
  refine rf_if_ne C 17 dX7_readSymbol_8 (by decide) (fun _ => ?_) (fun _ => ?_)
  · exact rf_vret C dX7_readSymbol_17
  refine rf_aload_n C dX7_readSymbol_11 rfl 0 rfl ?_
  refine rf_iconst C (v := (nI 4)) dX7_readSymbol_12 rfl ?_
  refine rf_iload_n C dX7_readSymbol_13 rfl 2 rfl ?_
  refine rf_callVv C (rmc := rmOf 0 0) [.int (nI 4), .int a2] (by decide) (mX7_blame (gL Γ) (nI 4) a2 s2) mfX7_blame mvX7_blame mlX7_61 rfl oX7 rfl rfl rfl (Nat.le_of_ble_eq_true rfl) ⟨Nat.le_of_ble_eq_true rfl, Nat.le_of_ble_eq_true rfl⟩ dX7_readSymbol_14 (fun s4 => ?_)
  exact rf_vret C dX7_readSymbol_17

def fX7_readRight (a1 : Int32) (a2 : Int32) (s0 : PH) : Option (Unit × PH) :=
(if a1 = (nI 124) then
(bd (fX7_openAlternative a2 s0) fun _ (s11 : PH) =>
(some ((), s11)))
else
(if a1 = (nI 59) then
(lt (si s0 3 4 (nI 0)) fun (s10 : PH) =>
(some ((), s10)))
else
(bd (fX7_isNonterminal a1 s0) fun (r2 : Int32) (s1 : PH) =>
(if r2 = 0 then
(jn (fun (s3 : PH) =>
(bd (fX7_blame (nI 1) a2 s3) fun _ (s5 : PH) =>
(some ((), s5)))) (fun (j4 : PH → Option (Unit × PH)) =>
(if a1 < (nI 97) then
(j4 s1)
else
(if (nI 102) ≤ a1 then
(j4 s1)
else
(bd (fX7_readSymbol (a1 - (nI 97)) a2 s1) fun _ (s6 : PH) =>
(some ((), s6)))))))
else
(ra 6 (a1 - (nI 65)) (s1.1 4) fun (v7 : Int32) =>
(wa 6 (a1 - (nI 65)) (lt (si s1 4 (a1 - (nI 65)).toNatClampNeg (if a2 < v7 then a2 else v7)) fun (s8 : PH) =>
(bd (fX7_readSymbol (((nI 10) + a1) - (nI 65)) a2 s8) fun _ (s9 : PH) =>
(some ((), s9))))))))))
set_option maxRecDepth 20000 in
set_option maxHeartbeats 2000000 in
theorem mX7_readRight (l : Launch) (a1 : Int32) (a2 : Int32) (s0 : PH) : Ctv 148 l yX7_readRight cX7_readRight 3 none (rmOf 3 63) (fun E => [.ref (E.2.1 3), .int a1, .int a2]) s0 (fX7_readRight a1 a2 s0) := by
  refine Ctv.of (by decide) rfl (lv := fun E => [(0, .ref (E.2.1 3)), (1, .int a1), (2, .int a2)]) (fun _ => Nat.le_of_ble_eq_true rfl) (fun _ => rfl) (fun Γ hΓ _ C => ?_)
  subst hΓ
  unfold fX7_readRight
  refine rf_iload_n C dX7_readRight_0 rfl 1 rfl ?_
  refine rf_bipush C (v := (nI 124)) dX7_readRight_1 rfl ?_
  refine rf_icmp_ne C 14 dX7_readRight_3 (by decide) (fun _ => ?_) (fun _ => ?_)
  · refine rf_iload_n C dX7_readRight_14 rfl 1 rfl ?_
    refine rf_bipush C (v := (nI 59)) dX7_readRight_15 rfl ?_
    refine rf_icmp_ne C 28 dX7_readRight_17 (by decide) (fun _ => ?_) (fun _ => ?_)
    · refine rf_iload_n C dX7_readRight_28 rfl 1 rfl ?_
      refine rf_callSi C (rmc := rmOf 0 0) [.int a1] (by decide) (mX7_isNonterminal (gL Γ) a1 s0) mfX7_isNonterminal msX7_isNonterminal mlX7_77 rfl rfl rfl (Nat.le_of_ble_eq_true rfl) ⟨Nat.le_of_ble_eq_true rfl, Nat.le_of_ble_eq_true rfl⟩ dX7_readRight_29 (fun r2 s1 => ?_)
      refine rf_if_eq C 72 dX7_readRight_32 (by decide) (fun _ => ?_) (fun _ => ?_)
      · refine rf_iload_n C dX7_readRight_72 rfl 1 rfl ?_
        refine rf_bipush C (v := (nI 97)) dX7_readRight_73 rfl ?_
        refine rf_jn1 (fun _ => True) (fun  s3 => s3) (fun s3 => [(0, .ref ((gE Γ).2.1 3)), (2, .int a2)]) (fun s3 => []) 96 (fun s3 _ => ?_) (fun j4 hj4 => ?_)
        · refine rf_aload_n C dX7_readRight_96 rfl 0 rfl ?_
          refine rf_iconst C (v := (nI 1)) dX7_readRight_97 rfl ?_
          refine rf_iload_n C dX7_readRight_98 rfl 1 rfl ?_
          refine rf_callVv C (rmc := rmOf 0 0) [.int (nI 1), .int a2] (by decide) (mX7_blame (gL Γ) (nI 1) a2 s3) mfX7_blame mvX7_blame mlX7_61 rfl oX7 rfl rfl rfl (Nat.le_of_ble_eq_true rfl) ⟨Nat.le_of_ble_eq_true rfl, Nat.le_of_ble_eq_true rfl⟩ dX7_readRight_99 (fun s5 => ?_)
          exact rf_vret C dX7_readRight_102
        refine rf_icmp_lt C 96 dX7_readRight_75 (by decide) (fun _ => ?_) (fun _ => ?_)
        · exact rf_sub [0, 2] rfl (hj4 s1 trivial)
        refine rf_iload_n C dX7_readRight_78 rfl 1 rfl ?_
        refine rf_bipush C (v := (nI 102)) dX7_readRight_79 rfl ?_
        refine rf_icmp_ge C 96 dX7_readRight_81 (by decide) (fun _ => ?_) (fun _ => ?_)
        · exact rf_sub [0, 2] rfl (hj4 s1 trivial)
        refine rf_aload_n C dX7_readRight_84 rfl 0 rfl ?_
        refine rf_iload_n C dX7_readRight_85 rfl 1 rfl ?_
        refine rf_bipush C (v := (nI 97)) dX7_readRight_86 rfl ?_
        refine rf_isub C dX7_readRight_88 ?_
        refine rf_iload_n C dX7_readRight_89 rfl 2 rfl ?_
        refine rf_callVv C (rmc := rmOf 1 22) [.int (a1 - (nI 97)), .int a2] (by decide) (mX7_readSymbol (gL Γ) (a1 - (nI 97)) a2 s1) mfX7_readSymbol mvX7_readSymbol mlX7_93 rfl oX7 rfl rfl rfl (Nat.le_of_ble_eq_true rfl) ⟨Nat.le_of_ble_eq_true rfl, Nat.le_of_ble_eq_true rfl⟩ dX7_readRight_90 (fun s6 => ?_)
        refine rf_goto C 102 dX7_readRight_93 (by decide) ?_
        exact rf_vret C dX7_readRight_102
      refine rf_aload_n C dX7_readRight_35 rfl 0 rfl ?_
      refine rf_get C (v := .ref ((gE Γ).2.1 4)) cfX7 flX7_9 (by decide) oX7 rfl dX7_readRight_36 ?_
      refine rf_iload_n C dX7_readRight_39 rfl 1 rfl ?_
      refine rf_bipush C (v := (nI 65)) dX7_readRight_40 rfl ?_
      refine rf_isub C dX7_readRight_42 ?_
      refine rf_aload_n C dX7_readRight_43 rfl 0 rfl ?_
      refine rf_get C (v := .ref ((gE Γ).2.1 4)) cfX7 flX7_9 (by decide) oX7 rfl dX7_readRight_44 ?_
      refine rf_iload_n C dX7_readRight_47 rfl 1 rfl ?_
      refine rf_bipush C (v := (nI 65)) dX7_readRight_48 rfl ?_
      refine rf_isub C dX7_readRight_50 ?_
      refine rf_iald C ar4 dX7_readRight_51 (fun v7 => ?_)
      refine rf_iload_n C dX7_readRight_52 rfl 2 rfl ?_
      refine rf_mmin C mlX7_88 (Nat.le_of_ble_eq_true rfl) (Nat.le_of_ble_eq_true rfl) mthmin dX7_readRight_53 ?_
      refine rf_iast C ar4 dX7_readRight_56 (fun s8 => ?_)
      refine rf_aload_n C dX7_readRight_57 rfl 0 rfl ?_
      refine rf_bipush C (v := (nI 10)) dX7_readRight_58 rfl ?_
      refine rf_iload_n C dX7_readRight_60 rfl 1 rfl ?_
      refine rf_iadd C dX7_readRight_61 ?_
      refine rf_bipush C (v := (nI 65)) dX7_readRight_62 rfl ?_
      refine rf_isub C dX7_readRight_64 ?_
      refine rf_iload_n C dX7_readRight_65 rfl 2 rfl ?_
      refine rf_callVv C (rmc := rmOf 1 22) [.int (((nI 10) + a1) - (nI 65)), .int a2] (by decide) (mX7_readSymbol (gL Γ) (((nI 10) + a1) - (nI 65)) a2 s8) mfX7_readSymbol mvX7_readSymbol mlX7_93 rfl oX7 rfl rfl rfl (Nat.le_of_ble_eq_true rfl) ⟨Nat.le_of_ble_eq_true rfl, Nat.le_of_ble_eq_true rfl⟩ dX7_readRight_66 (fun s9 => ?_)
      refine rf_goto C 102 dX7_readRight_69 (by decide) ?_
      exact rf_vret C dX7_readRight_102
    refine rf_aload_n C dX7_readRight_20 rfl 0 rfl ?_
    refine rf_iconst C (v := (nI 0)) dX7_readRight_21 rfl ?_
    refine rf_puti C cfX7 flX7_29 (by decide) rfl oX7 (fty := .int) rfl rfl rfl (fun _ _ _ _ => Nat.le_of_ble_eq_true rfl) (fun _ _ _ _ => rfl) dX7_readRight_22 (fun s10 => ?_)
    refine rf_goto C 102 dX7_readRight_25 (by decide) ?_
    exact rf_vret C dX7_readRight_102
  refine rf_aload_n C dX7_readRight_6 rfl 0 rfl ?_
  refine rf_iload_n C dX7_readRight_7 rfl 2 rfl ?_
  refine rf_callVv C (rmc := rmOf 2 42) [.int a2] (by decide) (mX7_openAlternative (gL Γ) a2 s0) mfX7_openAlternative mvX7_openAlternative mlX7_73 rfl oX7 rfl rfl rfl (Nat.le_of_ble_eq_true rfl) ⟨Nat.le_of_ble_eq_true rfl, Nat.le_of_ble_eq_true rfl⟩ dX7_readRight_8 (fun s11 => ?_)
  refine rf_goto C 102 dX7_readRight_11 (by decide) ?_
  exact rf_vret C dX7_readRight_102

def fX7_readLeft (a1 : Int32) (a2 : Int32) (s0 : PH) : Option (Unit × PH) :=
(bd (fX7_isNonterminal a1 s0) fun (r2 : Int32) (s1 : PH) =>
(if r2 = 0 then
(bd (fX7_blame (nI 1) a2 s1) fun _ (s11 : PH) =>
(some ((), s11)))
else
(lt (s1.2.2 3 1) fun (g3 : Nat) =>
(bd (fX4_defined g3 s1) fun (r5 : Int32) (s4 : PH) =>
(bd (fX11_bit r5 (a1 - (nI 65)) s4) fun (r7 : Int32) (s6 : PH) =>
(if r7 = (nI 1) then
(bd (fX7_blame (nI 2) a2 s6) fun _ (s10 : PH) =>
(some ((), s10)))
else
(lt (si s6 3 5 (a1 - (nI 65))) fun (s8 : PH) =>
(lt (si s8 3 4 (nI 1)) fun (s9 : PH) =>
(some ((), s9))))))))))
set_option maxRecDepth 20000 in
set_option maxHeartbeats 2000000 in
theorem mX7_readLeft (l : Launch) (a1 : Int32) (a2 : Int32) (s0 : PH) : Ctv 148 l yX7_readLeft cX7_readLeft 3 none (rmOf 1 22) (fun E => [.ref (E.2.1 3), .int a1, .int a2]) s0 (fX7_readLeft a1 a2 s0) := by
  refine Ctv.of (by decide) rfl (lv := fun E => [(0, .ref (E.2.1 3)), (1, .int a1), (2, .int a2)]) (fun _ => Nat.le_of_ble_eq_true rfl) (fun _ => rfl) (fun Γ hΓ _ C => ?_)
  subst hΓ
  unfold fX7_readLeft
  refine rf_iload_n C dX7_readLeft_0 rfl 1 rfl ?_
  refine rf_callSi C (rmc := rmOf 0 0) [.int a1] (by decide) (mX7_isNonterminal (gL Γ) a1 s0) mfX7_isNonterminal msX7_isNonterminal mlX7_77 rfl rfl rfl (Nat.le_of_ble_eq_true rfl) ⟨Nat.le_of_ble_eq_true rfl, Nat.le_of_ble_eq_true rfl⟩ dX7_readLeft_1 (fun r2 s1 => ?_)
  refine rf_if_ne C 16 dX7_readLeft_4 (by decide) (fun _ => ?_) (fun _ => ?_)
  · refine rf_aload_n C dX7_readLeft_16 rfl 0 rfl ?_
    refine rf_getG C cfX7 flX7_18 (by decide) oX7 (fun _ _ _ _ => rfl) dX7_readLeft_17 (fun g3 hg3 => ?_)
    refine rf_callVi C (rmc := rmOf 0 0) [] (by decide) (mX4_defined (gL Γ) g3 s1 hg3) mfX4_defined mvX4_defined mlX7_81 rfl (oX4 hg3) rfl rfl rfl (Nat.le_of_ble_eq_true rfl) ⟨Nat.le_of_ble_eq_true rfl, Nat.le_of_ble_eq_true rfl⟩ dX7_readLeft_20 (fun r5 s4 => ?_)
    refine rf_iload_n C dX7_readLeft_23 rfl 1 rfl ?_
    refine rf_bipush C (v := (nI 65)) dX7_readLeft_24 rfl ?_
    refine rf_isub C dX7_readLeft_26 ?_
    refine rf_callSNi C (rmc := rmOf 0 0) [.int r5, .int (a1 - (nI 65))] (by decide) (mX11_bit (gL Γ) r5 (a1 - (nI 65)) s4) mfX11_bit msX11_bit (by decide) rfl rfl rfl (Nat.le_of_ble_eq_true rfl) ⟨Nat.le_of_ble_eq_true rfl, Nat.le_of_ble_eq_true rfl⟩ dX7_readLeft_27 (fun r7 s6 => ?_)
    refine rf_iconst C (v := (nI 1)) dX7_readLeft_30 rfl ?_
    refine rf_icmp_ne C 43 dX7_readLeft_31 (by decide) (fun _ => ?_) (fun _ => ?_)
    · refine rf_aload_n C dX7_readLeft_43 rfl 0 rfl ?_
      refine rf_iload_n C dX7_readLeft_44 rfl 1 rfl ?_
      refine rf_bipush C (v := (nI 65)) dX7_readLeft_45 rfl ?_
      refine rf_isub C dX7_readLeft_47 ?_
      refine rf_puti C cfX7 flX7_32 (by decide) rfl oX7 (fty := .int) rfl rfl rfl (fun _ _ _ _ => Nat.le_of_ble_eq_true rfl) (fun _ _ _ _ => rfl) dX7_readLeft_48 (fun s8 => ?_)
      refine rf_aload_n C dX7_readLeft_51 rfl 0 rfl ?_
      refine rf_iconst C (v := (nI 1)) dX7_readLeft_52 rfl ?_
      refine rf_puti C cfX7 flX7_29 (by decide) rfl oX7 (fty := .int) rfl rfl rfl (fun _ _ _ _ => Nat.le_of_ble_eq_true rfl) (fun _ _ _ _ => rfl) dX7_readLeft_53 (fun s9 => ?_)
      exact rf_vret C dX7_readLeft_56
    refine rf_aload_n C dX7_readLeft_34 rfl 0 rfl ?_
    refine rf_iconst C (v := (nI 2)) dX7_readLeft_35 rfl ?_
    refine rf_iload_n C dX7_readLeft_36 rfl 2 rfl ?_
    refine rf_callVv C (rmc := rmOf 0 0) [.int (nI 2), .int a2] (by decide) (mX7_blame (gL Γ) (nI 2) a2 s6) mfX7_blame mvX7_blame mlX7_61 rfl oX7 rfl rfl rfl (Nat.le_of_ble_eq_true rfl) ⟨Nat.le_of_ble_eq_true rfl, Nat.le_of_ble_eq_true rfl⟩ dX7_readLeft_37 (fun s10 => ?_)
    refine rf_goto C 56 dX7_readLeft_40 (by decide) ?_
    exact rf_vret C dX7_readLeft_56
  refine rf_aload_n C dX7_readLeft_7 rfl 0 rfl ?_
  refine rf_iconst C (v := (nI 1)) dX7_readLeft_8 rfl ?_
  refine rf_iload_n C dX7_readLeft_9 rfl 2 rfl ?_
  refine rf_callVv C (rmc := rmOf 0 0) [.int (nI 1), .int a2] (by decide) (mX7_blame (gL Γ) (nI 1) a2 s1) mfX7_blame mvX7_blame mlX7_61 rfl oX7 rfl rfl rfl (Nat.le_of_ble_eq_true rfl) ⟨Nat.le_of_ble_eq_true rfl, Nat.le_of_ble_eq_true rfl⟩ dX7_readLeft_10 (fun s11 => ?_)
  refine rf_goto C 56 dX7_readLeft_13 (by decide) ?_
  exact rf_vret C dX7_readLeft_56

def fX7_readByte (a1 : Int32) (a2 : Int32) (s0 : PH) : Option (Unit × PH) :=
(if (s0.1 3 4) = 0 then
(bd (fX7_readLeft a1 a2 s0) fun _ (s4 : PH) =>
(some ((), s4)))
else
(if (s0.1 3 4) = (nI 2) then
(bd (fX7_readRight a1 a2 s0) fun _ (s3 : PH) =>
(some ((), s3)))
else
(if a1 = (nI 61) then
(bd (fX7_openAlternative a2 s0) fun _ (s2 : PH) =>
(some ((), s2)))
else
(bd (fX7_blame (nI 1) a2 s0) fun _ (s1 : PH) =>
(some ((), s1))))))
set_option maxRecDepth 20000 in
set_option maxHeartbeats 2000000 in
theorem mX7_readByte (l : Launch) (a1 : Int32) (a2 : Int32) (s0 : PH) : Ctv 148 l yX7_readByte cX7_readByte 3 none (rmOf 4 85) (fun E => [.ref (E.2.1 3), .int a1, .int a2]) s0 (fX7_readByte a1 a2 s0) := by
  refine Ctv.of (by decide) rfl (lv := fun E => [(0, .ref (E.2.1 3)), (1, .int a1), (2, .int a2)]) (fun _ => Nat.le_of_ble_eq_true rfl) (fun _ => rfl) (fun Γ hΓ _ C => ?_)
  subst hΓ
  unfold fX7_readByte
  refine rf_aload_n C dX7_readByte_0 rfl 0 rfl ?_
  refine rf_get C (v := .int (s0.1 3 4)) cfX7 flX7_29 (by decide) oX7 rfl dX7_readByte_1 ?_
  refine rf_if_ne C 16 dX7_readByte_4 (by decide) (fun _ => ?_) (fun _ => ?_)
  · refine rf_aload_n C dX7_readByte_16 rfl 0 rfl ?_
    refine rf_get C (v := .int (s0.1 3 4)) cfX7 flX7_29 (by decide) oX7 rfl dX7_readByte_17 ?_
    refine rf_iconst C (v := (nI 2)) dX7_readByte_20 rfl ?_
    refine rf_icmp_ne C 33 dX7_readByte_21 (by decide) (fun _ => ?_) (fun _ => ?_)
    · refine rf_iload_n C dX7_readByte_33 rfl 1 rfl ?_
      refine rf_bipush C (v := (nI 61)) dX7_readByte_34 rfl ?_
      refine rf_icmp_ne C 47 dX7_readByte_36 (by decide) (fun _ => ?_) (fun _ => ?_)
      · refine rf_aload_n C dX7_readByte_47 rfl 0 rfl ?_
        refine rf_iconst C (v := (nI 1)) dX7_readByte_48 rfl ?_
        refine rf_iload_n C dX7_readByte_49 rfl 2 rfl ?_
        refine rf_callVv C (rmc := rmOf 0 0) [.int (nI 1), .int a2] (by decide) (mX7_blame (gL Γ) (nI 1) a2 s0) mfX7_blame mvX7_blame mlX7_61 rfl oX7 rfl rfl rfl (Nat.le_of_ble_eq_true rfl) ⟨Nat.le_of_ble_eq_true rfl, Nat.le_of_ble_eq_true rfl⟩ dX7_readByte_50 (fun s1 => ?_)
        exact rf_vret C dX7_readByte_53
      refine rf_aload_n C dX7_readByte_39 rfl 0 rfl ?_
      refine rf_iload_n C dX7_readByte_40 rfl 2 rfl ?_
      refine rf_callVv C (rmc := rmOf 2 42) [.int a2] (by decide) (mX7_openAlternative (gL Γ) a2 s0) mfX7_openAlternative mvX7_openAlternative mlX7_73 rfl oX7 rfl rfl rfl (Nat.le_of_ble_eq_true rfl) ⟨Nat.le_of_ble_eq_true rfl, Nat.le_of_ble_eq_true rfl⟩ dX7_readByte_41 (fun s2 => ?_)
      refine rf_goto C 53 dX7_readByte_44 (by decide) ?_
      exact rf_vret C dX7_readByte_53
    refine rf_aload_n C dX7_readByte_24 rfl 0 rfl ?_
    refine rf_iload_n C dX7_readByte_25 rfl 1 rfl ?_
    refine rf_iload_n C dX7_readByte_26 rfl 2 rfl ?_
    refine rf_callVv C (rmc := rmOf 3 63) [.int a1, .int a2] (by decide) (mX7_readRight (gL Γ) a1 a2 s0) mfX7_readRight mvX7_readRight mlX7_70 rfl oX7 rfl rfl rfl (Nat.le_of_ble_eq_true rfl) ⟨Nat.le_of_ble_eq_true rfl, Nat.le_of_ble_eq_true rfl⟩ dX7_readByte_27 (fun s3 => ?_)
    refine rf_goto C 53 dX7_readByte_30 (by decide) ?_
    exact rf_vret C dX7_readByte_53
  refine rf_aload_n C dX7_readByte_7 rfl 0 rfl ?_
  refine rf_iload_n C dX7_readByte_8 rfl 1 rfl ?_
  refine rf_iload_n C dX7_readByte_9 rfl 2 rfl ?_
  refine rf_callVv C (rmc := rmOf 1 22) [.int a1, .int a2] (by decide) (mX7_readLeft (gL Γ) a1 a2 s0) mfX7_readLeft mvX7_readLeft mlX7_67 rfl oX7 rfl rfl rfl (Nat.le_of_ble_eq_true rfl) ⟨Nat.le_of_ble_eq_true rfl, Nat.le_of_ble_eq_true rfl⟩ dX7_readByte_10 (fun s4 => ?_)
  refine rf_goto C 53 dX7_readByte_13 (by decide) ?_
  exact rf_vret C dX7_readByte_53

