def fX11_word (n : Nat) (a1 : Int32) (a2 : Int32) (a3 : Int32) (s0 : PH) : Option (Int32 × PH) :=
(lt (s0.2.2 0 8) fun (g1 : Nat) =>
(bd (fX4_has g1 a1 s0) fun (r3 : Int32) (s2 : PH) =>
(if r3 = 0 then
(some ((-1 : Int32), s2))
else
(bd (fX11_isLookahead a2 s2) fun (r5 : Int32) (s4 : PH) =>
(if r5 = 0 then
(some ((-1 : Int32), s4))
else
(if 0 ≤ a3 then
(bd (fX3_aheadOf a1 s4) fun (w7 : Nat) (s6 : PH) =>
(lt (nI 0) fun (v8 : Int32) =>
(lt (nI 0) fun (v9 : Int32) =>
(loo3 (fun (recrec13 : Int32 → Int32 → PH → Option (Int32 × PH)) (v10 : Int32) (v11 : Int32) (s12 : PH) =>
(ra 4 a2 lim fun (v14 : Int32) =>
(if v14 ≤ v11 then
(some ((-9 : Int32), s12))
else
(bd (fX11_isWord n v11 a2 s12) fun (r16 : Int32) (s15 : PH) =>
(jn (fun (v17 : Int32) (s18 : PH) =>
(lt (v11 + (nI 1)) fun (v20 : Int32) =>
(recrec13 v17 v20 s18))) (fun (j19 : Int32 → PH → Option (Int32 × PH)) =>
(if r16 = 0 then
(j19 v10 s15)
else
(bd (fX10_has w7 v11 a2 s15) fun (r22 : Int32) (s21 : PH) =>
(if r22 = 0 then
(j19 v10 s21)
else
(if v10 = a3 then
(some (v11, s21))
else
(lt (v10 + (nI 1)) fun (v23 : Int32) =>
(j19 v23 s21)))))))))))) n v8 v9 s6))))
else
(some ((-1 : Int32), s4))))))))
set_option maxRecDepth 20000 in
set_option maxHeartbeats 2000000 in
theorem mX11_word (l : Launch) (n : Nat) (a1 : Int32) (a2 : Int32) (a3 : Int32) (s0 : PH) : Cti 148 l yX11_word cX11_word 7 (some .int) (rmOf 2 43) (fun E => [.ref (E.2.1 0), .int a1, .int a2, .int a3]) s0 (fX11_word n a1 a2 a3 s0) := by
  refine Cti.of (by decide) rfl (lv := fun E => [(0, .ref (E.2.1 0)), (1, .int a1), (2, .int a2), (3, .int a3)]) (fun _ => Nat.le_of_ble_eq_true rfl) (fun _ => rfl) (fun Γ hΓ _ C => ?_)
  subst hΓ
  unfold fX11_word
  refine rf_aload_n C dX11_word_0 rfl 0 rfl ?_
  refine rf_getG C cfX11 flX11_68 (by decide) oX11 (fun _ _ _ _ => rfl) dX11_word_1 (fun g1 hg1 => ?_)
  refine rf_iload_n C dX11_word_4 rfl 1 rfl ?_
  refine rf_callVi C (rmc := rmOf 0 0) [.int a1] (by decide) (mX4_has (gL Γ) g1 a1 s0 hg1) mfX4_has mvX4_has mlX11_113 rfl (oX4 hg1) rfl rfl rfl (Nat.le_of_ble_eq_true rfl) ⟨Nat.le_of_ble_eq_true rfl, Nat.le_of_ble_eq_true rfl⟩ dX11_word_5 (fun r3 s2 => ?_)
  refine rf_if_eq C 22 dX11_word_8 (by decide) (fun _ => ?_) (fun _ => ?_)
  · refine rf_iconst C (v := (-1 : Int32)) dX11_word_22 rfl ?_
    exact rf_iret C dX11_word_23
  refine rf_iload_n C dX11_word_11 rfl 2 rfl ?_
  refine rf_callSi C (rmc := rmOf 0 0) [.int a2] (by decide) (mX11_isLookahead (gL Γ) a2 s2) mfX11_isLookahead msX11_isLookahead mlX11_173 rfl rfl rfl (Nat.le_of_ble_eq_true rfl) ⟨Nat.le_of_ble_eq_true rfl, Nat.le_of_ble_eq_true rfl⟩ dX11_word_12 (fun r5 s4 => ?_)
  refine rf_if_eq C 22 dX11_word_15 (by decide) (fun _ => ?_) (fun _ => ?_)
  · refine rf_iconst C (v := (-1 : Int32)) dX11_word_22 rfl ?_
    exact rf_iret C dX11_word_23
  refine rf_iload_n C dX11_word_18 rfl 3 rfl ?_
  refine rf_if_ge C 24 dX11_word_19 (by decide) (fun _ => ?_) (fun _ => ?_)
  · refine rf_aload_n C dX11_word_24 rfl 0 rfl ?_
    refine rf_get C (v := .ref ((gE Γ).2.1 13)) cfX11 flX11_40 (by decide) oX11 rfl dX11_word_25 ?_
    refine rf_iload_n C dX11_word_28 rfl 1 rfl ?_
    refine rf_callVw C (rmc := rmOf 0 0) [.int a1] (by decide) (mX3_aheadOf (gL Γ) a1 s4) mfX3_aheadOf mvX3_aheadOf mlX11_170 rfl oX3 rfl rfl rfl (Nat.le_of_ble_eq_true rfl) ⟨Nat.le_of_ble_eq_true rfl, Nat.le_of_ble_eq_true rfl⟩ dX11_word_29 (fun w7 s6 hw7 => ?_)
    refine rf_astore C [(4, .ref ((gE Γ).2.1 (wId w7 0))), (0, .ref ((gE Γ).2.1 0)), (1, .int a1), (2, .int a2), (3, .int a3)] dX11_word_32 (by decide) rfl ?_
    refine rf_iconst C (v := (nI 0)) dX11_word_34 rfl ?_
    refine rf_istore C (fun v8 => [(5, .int v8), (4, .ref ((gE Γ).2.1 (wId w7 0))), (0, .ref ((gE Γ).2.1 0)), (1, .int a1), (2, .int a2), (3, .int a3)]) dX11_word_35 (by decide) (fun _ => rfl) (fun v8 => ?_)
    refine rf_iconst C (v := (nI 0)) dX11_word_37 rfl ?_
    refine rf_istore C (fun v9 => [(6, .int v9), (5, .int v8), (4, .ref ((gE Γ).2.1 (wId w7 0))), (0, .ref ((gE Γ).2.1 0)), (1, .int a1), (2, .int a2), (3, .int a3)]) dX11_word_38 (by decide) (fun _ => rfl) (fun v9 => ?_)
    refine rf_sub [5, 6, 2, 1, 0] rfl ?_
    refine rf_loo3 (fun _ _ _ => True) (fun _ _ s12 => s12) (fun v10 v11 s12 => [(2, .int a2), (3, .int a3), (4, .ref ((gE Γ).2.1 (wId w7 0))), (5, .int v10), (6, .int v11)]) (fun recrec13 hrec13 v10 v11 s12 _ => ?_) n v8 v9 s6 trivial
    refine rf_iload C dX11_word_40 4 rfl ?_
    refine rf_gets C fsX11_178 dX11_word_42 ?_
    refine rf_iload_n C dX11_word_45 rfl 0 rfl ?_
    refine rf_tald C dX11_word_46 (fun v14 => ?_)
    refine rf_icmp_ge C 88 dX11_word_47 (by decide) (fun _ => ?_) (fun _ => ?_)
    · refine rf_bipush C (v := (-9 : Int32)) dX11_word_88 rfl ?_
      exact rf_iret C dX11_word_90
    refine rf_iload C dX11_word_50 4 rfl ?_
    refine rf_iload_n C dX11_word_52 rfl 0 rfl ?_
    refine rf_callSi C (rmc := rmOf 1 20) [.int v11, .int a2] (by decide) (mX11_isWord (gL Γ) n v11 a2 s12) mfX11_isWord msX11_isWord mlX11_155 rfl rfl rfl (Nat.le_of_ble_eq_true rfl) ⟨Nat.le_of_ble_eq_true rfl, Nat.le_of_ble_eq_true rfl⟩ dX11_word_53 (fun r16 s15 => ?_)
    refine rf_jn2 (fun _ _ => True) (fun _ s18 => s18) (fun v17 s18 => [(2, .int a2), (3, .int a3), (4, .ref ((gE Γ).2.1 (wId w7 0))), (5, .int v17), (6, .int v11)]) (fun v17 s18 => []) 82 (fun v17 s18 _ => ?_) (fun j19 hj19 => ?_)
    · refine rf_iinc C (fun v20 => [(6, .int v20), (2, .int a2), (3, .int a3), (4, .ref ((gE Γ).2.1 (wId w7 0))), (5, .int v17)]) dX11_word_82 4 rfl rfl (by decide) (fun _ => rfl) (fun v20 => ?_)
      refine rf_goto C 40 dX11_word_85 (by decide) ?_
      exact rf_sub [1, 2, 3, 4, 0] rfl (hrec13 v17 v20 s18 trivial)
    refine rf_if_eq C 82 dX11_word_56 (by decide) (fun _ => ?_) (fun _ => ?_)
    · exact rf_sub [0, 1, 2, 3, 4] rfl (hj19 v10 s15 trivial)
    refine rf_aload C dX11_word_59 2 rfl ?_
    refine rf_iload C dX11_word_61 4 rfl ?_
    refine rf_iload_n C dX11_word_63 rfl 0 rfl ?_
    refine rf_callVi C (rmc := rmOf 0 0) [.int v11, .int a2] (by decide) (mX10_has (gL Γ) w7 v11 a2 s15 hw7) mfX10_has mvX10_has mlX11_163 rfl (oX10 hw7) rfl rfl rfl (Nat.le_of_ble_eq_true rfl) ⟨Nat.le_of_ble_eq_true rfl, Nat.le_of_ble_eq_true rfl⟩ dX11_word_64 (fun r22 s21 => ?_)
    refine rf_if_eq C 82 dX11_word_67 (by decide) (fun _ => ?_) (fun _ => ?_)
    · exact rf_sub [0, 1, 2, 3, 4] rfl (hj19 v10 s21 trivial)
    refine rf_iload C dX11_word_70 3 rfl ?_
    refine rf_iload_n C dX11_word_72 rfl 1 rfl ?_
    refine rf_icmp_ne C 79 dX11_word_73 (by decide) (fun _ => ?_) (fun _ => ?_)
    · refine rf_iinc C (fun v23 => [(5, .int v23), (2, .int a2), (3, .int a3), (4, .ref ((gE Γ).2.1 (wId w7 0))), (6, .int v11)]) dX11_word_79 3 rfl rfl (by decide) (fun _ => rfl) (fun v23 => ?_)
      exact rf_sub [1, 2, 3, 0, 4] rfl (hj19 v23 s21 trivial)
    refine rf_iload C dX11_word_76 4 rfl ?_
    exact rf_iret C dX11_word_78
  refine rf_iconst C (v := (-1 : Int32)) dX11_word_22 rfl ?_
  exact rf_iret C dX11_word_23

def fX11_marks (n : Nat) (a1 : Int32) (a2 : Int32) (s0 : PH) : Option (Int32 × PH) :=
(lt (s0.2.2 0 8) fun (g1 : Nat) =>
(bd (fX4_has g1 a1 s0) fun (r3 : Int32) (s2 : PH) =>
(if r3 = 0 then
(some ((-1 : Int32), s2))
else
(if a2 < 0 then
(some ((-1 : Int32), s2))
else
(if a2 < (nI 3) then
(bd (fX3_aheadOf a1 s2) fun (w5 : Nat) (s4 : PH) =>
(bd (fX10_marksAt n w5 a2 s4) fun (r7 : Int32) (s6 : PH) =>
(some (r7, s6))))
else
(some ((-1 : Int32), s2)))))))
set_option maxRecDepth 20000 in
set_option maxHeartbeats 2000000 in
theorem mX11_marks (l : Launch) (n : Nat) (a1 : Int32) (a2 : Int32) (s0 : PH) : Cti 148 l yX11_marks cX11_marks 3 (some .int) (rmOf 2 48) (fun E => [.ref (E.2.1 0), .int a1, .int a2]) s0 (fX11_marks n a1 a2 s0) := by
  refine Cti.of (by decide) rfl (lv := fun E => [(0, .ref (E.2.1 0)), (1, .int a1), (2, .int a2)]) (fun _ => Nat.le_of_ble_eq_true rfl) (fun _ => rfl) (fun Γ hΓ _ C => ?_)
  subst hΓ
  unfold fX11_marks
  refine rf_aload_n C dX11_marks_0 rfl 0 rfl ?_
  refine rf_getG C cfX11 flX11_68 (by decide) oX11 (fun _ _ _ _ => rfl) dX11_marks_1 (fun g1 hg1 => ?_)
  refine rf_iload_n C dX11_marks_4 rfl 1 rfl ?_
  refine rf_callVi C (rmc := rmOf 0 0) [.int a1] (by decide) (mX4_has (gL Γ) g1 a1 s0 hg1) mfX4_has mvX4_has mlX11_113 rfl (oX4 hg1) rfl rfl rfl (Nat.le_of_ble_eq_true rfl) ⟨Nat.le_of_ble_eq_true rfl, Nat.le_of_ble_eq_true rfl⟩ dX11_marks_5 (fun r3 s2 => ?_)
  refine rf_if_eq C 20 dX11_marks_8 (by decide) (fun _ => ?_) (fun _ => ?_)
  · refine rf_iconst C (v := (-1 : Int32)) dX11_marks_20 rfl ?_
    exact rf_iret C dX11_marks_21
  refine rf_iload_n C dX11_marks_11 rfl 2 rfl ?_
  refine rf_if_lt C 20 dX11_marks_12 (by decide) (fun _ => ?_) (fun _ => ?_)
  · refine rf_iconst C (v := (-1 : Int32)) dX11_marks_20 rfl ?_
    exact rf_iret C dX11_marks_21
  refine rf_iload_n C dX11_marks_15 rfl 2 rfl ?_
  refine rf_iconst C (v := (nI 3)) dX11_marks_16 rfl ?_
  refine rf_icmp_lt C 22 dX11_marks_17 (by decide) (fun _ => ?_) (fun _ => ?_)
  · refine rf_aload_n C dX11_marks_22 rfl 0 rfl ?_
    refine rf_get C (v := .ref ((gE Γ).2.1 13)) cfX11 flX11_40 (by decide) oX11 rfl dX11_marks_23 ?_
    refine rf_iload_n C dX11_marks_26 rfl 1 rfl ?_
    refine rf_callVw C (rmc := rmOf 0 0) [.int a1] (by decide) (mX3_aheadOf (gL Γ) a1 s2) mfX3_aheadOf mvX3_aheadOf mlX11_170 rfl oX3 rfl rfl rfl (Nat.le_of_ble_eq_true rfl) ⟨Nat.le_of_ble_eq_true rfl, Nat.le_of_ble_eq_true rfl⟩ dX11_marks_27 (fun w5 s4 hw5 => ?_)
    refine rf_iload_n C dX11_marks_30 rfl 2 rfl ?_
    refine rf_callVi C (rmc := rmOf 1 24) [.int a2] (by decide) (mX10_marksAt (gL Γ) n w5 a2 s4 hw5) mfX10_marksAt mvX10_marksAt mlX11_182 rfl (oX10 hw5) rfl rfl rfl (Nat.le_of_ble_eq_true rfl) ⟨Nat.le_of_ble_eq_true rfl, Nat.le_of_ble_eq_true rfl⟩ dX11_marks_31 (fun r7 s6 => ?_)
    exact rf_iret C dX11_marks_34
  refine rf_iconst C (v := (-1 : Int32)) dX11_marks_20 rfl ?_
  exact rf_iret C dX11_marks_21

def fX3_depthOf (a1 : Int32) (s0 : PH) : Option (Int32 × PH) :=
(ra 6 a1 (s0.1 19) fun (v1 : Int32) =>
(some (v1, s0)))
set_option maxRecDepth 20000 in
set_option maxHeartbeats 2000000 in
theorem mX3_depthOf (l : Launch) (a1 : Int32) (s0 : PH) : Cti 148 l yX3_depthOf cX3_depthOf 2 (some .int) (rmOf 0 0) (fun E => [.ref (E.2.1 13), .int a1]) s0 (fX3_depthOf a1 s0) := by
  refine Cti.of (by decide) rfl (lv := fun E => [(0, .ref (E.2.1 13)), (1, .int a1)]) (fun _ => Nat.le_of_ble_eq_true rfl) (fun _ => rfl) (fun Γ hΓ _ C => ?_)
  subst hΓ
  unfold fX3_depthOf
  refine rf_aload_n C dX3_depthOf_0 rfl 0 rfl ?_
  refine rf_get C (v := .ref ((gE Γ).2.1 19)) cfX3 flX3_38 (by decide) oX3 rfl dX3_depthOf_1 ?_
  refine rf_iload_n C dX3_depthOf_4 rfl 1 rfl ?_
  refine rf_iald C ar19 dX3_depthOf_5 (fun v1 => ?_)
  exact rf_iret C dX3_depthOf_6

def fX11_depth (a1 : Int32) (s0 : PH) : Option (Int32 × PH) :=
(bd (fX11_isDefined a1 s0) fun (r2 : Int32) (s1 : PH) =>
(if r2 = 0 then
(some ((-1 : Int32), s1))
else
(bd (fX3_depthOf a1 s1) fun (r4 : Int32) (s3 : PH) =>
(some (r4, s3)))))
set_option maxRecDepth 20000 in
set_option maxHeartbeats 2000000 in
theorem mX11_depth (l : Launch) (a1 : Int32) (s0 : PH) : Cti 148 l yX11_depth cX11_depth 2 (some .int) (rmOf 2 42) (fun E => [.ref (E.2.1 0), .int a1]) s0 (fX11_depth a1 s0) := by
  refine Cti.of (by decide) rfl (lv := fun E => [(0, .ref (E.2.1 0)), (1, .int a1)]) (fun _ => Nat.le_of_ble_eq_true rfl) (fun _ => rfl) (fun Γ hΓ _ C => ?_)
  subst hΓ
  unfold fX11_depth
  refine rf_aload_n C dX11_depth_0 rfl 0 rfl ?_
  refine rf_iload_n C dX11_depth_1 rfl 1 rfl ?_
  refine rf_callVi C (rmc := rmOf 1 21) [.int a1] (by decide) (mX11_isDefined (gL Γ) a1 s0) mfX11_isDefined mvX11_isDefined mlX11_152 rfl oX11 rfl rfl rfl (Nat.le_of_ble_eq_true rfl) ⟨Nat.le_of_ble_eq_true rfl, Nat.le_of_ble_eq_true rfl⟩ dX11_depth_2 (fun r2 s1 => ?_)
  refine rf_if_eq C 19 dX11_depth_5 (by decide) (fun _ => ?_) (fun _ => ?_)
  · refine rf_iconst C (v := (-1 : Int32)) dX11_depth_19 rfl ?_
    exact rf_iret C dX11_depth_20
  refine rf_aload_n C dX11_depth_8 rfl 0 rfl ?_
  refine rf_get C (v := .ref ((gE Γ).2.1 13)) cfX11 flX11_40 (by decide) oX11 rfl dX11_depth_9 ?_
  refine rf_iload_n C dX11_depth_12 rfl 1 rfl ?_
  refine rf_callVi C (rmc := rmOf 0 0) [.int a1] (by decide) (mX3_depthOf (gL Γ) a1 s1) mfX3_depthOf mvX3_depthOf mlX11_185 rfl oX3 rfl rfl rfl (Nat.le_of_ble_eq_true rfl) ⟨Nat.le_of_ble_eq_true rfl, Nat.le_of_ble_eq_true rfl⟩ dX11_depth_13 (fun r4 s3 => ?_)
  refine rf_goto C 20 dX11_depth_16 (by decide) ?_
  exact rf_iret C dX11_depth_20

def fX3_roughDepthOf (a1 : Int32) (s0 : PH) : Option (Int32 × PH) :=
(ra 6 a1 (s0.1 20) fun (v1 : Int32) =>
(some (v1, s0)))
set_option maxRecDepth 20000 in
set_option maxHeartbeats 2000000 in
theorem mX3_roughDepthOf (l : Launch) (a1 : Int32) (s0 : PH) : Cti 148 l yX3_roughDepthOf cX3_roughDepthOf 2 (some .int) (rmOf 0 0) (fun E => [.ref (E.2.1 13), .int a1]) s0 (fX3_roughDepthOf a1 s0) := by
  refine Cti.of (by decide) rfl (lv := fun E => [(0, .ref (E.2.1 13)), (1, .int a1)]) (fun _ => Nat.le_of_ble_eq_true rfl) (fun _ => rfl) (fun Γ hΓ _ C => ?_)
  subst hΓ
  unfold fX3_roughDepthOf
  refine rf_aload_n C dX3_roughDepthOf_0 rfl 0 rfl ?_
  refine rf_get C (v := .ref ((gE Γ).2.1 20)) cfX3 flX3_42 (by decide) oX3 rfl dX3_roughDepthOf_1 ?_
  refine rf_iload_n C dX3_roughDepthOf_4 rfl 1 rfl ?_
  refine rf_iald C ar20 dX3_roughDepthOf_5 (fun v1 => ?_)
  exact rf_iret C dX3_roughDepthOf_6

def fX11_approximate (a1 : Int32) (s0 : PH) : Option (Int32 × PH) :=
(bd (fX11_isDefined a1 s0) fun (r2 : Int32) (s1 : PH) =>
(if r2 = 0 then
(some ((-1 : Int32), s1))
else
(bd (fX3_roughDepthOf a1 s1) fun (r4 : Int32) (s3 : PH) =>
(some (r4, s3)))))
set_option maxRecDepth 20000 in
set_option maxHeartbeats 2000000 in
theorem mX11_approximate (l : Launch) (a1 : Int32) (s0 : PH) : Cti 148 l yX11_approximate cX11_approximate 2 (some .int) (rmOf 2 42) (fun E => [.ref (E.2.1 0), .int a1]) s0 (fX11_approximate a1 s0) := by
  refine Cti.of (by decide) rfl (lv := fun E => [(0, .ref (E.2.1 0)), (1, .int a1)]) (fun _ => Nat.le_of_ble_eq_true rfl) (fun _ => rfl) (fun Γ hΓ _ C => ?_)
  subst hΓ
  unfold fX11_approximate
  refine rf_aload_n C dX11_approximate_0 rfl 0 rfl ?_
  refine rf_iload_n C dX11_approximate_1 rfl 1 rfl ?_
  refine rf_callVi C (rmc := rmOf 1 21) [.int a1] (by decide) (mX11_isDefined (gL Γ) a1 s0) mfX11_isDefined mvX11_isDefined mlX11_152 rfl oX11 rfl rfl rfl (Nat.le_of_ble_eq_true rfl) ⟨Nat.le_of_ble_eq_true rfl, Nat.le_of_ble_eq_true rfl⟩ dX11_approximate_2 (fun r2 s1 => ?_)
  refine rf_if_eq C 19 dX11_approximate_5 (by decide) (fun _ => ?_) (fun _ => ?_)
  · refine rf_iconst C (v := (-1 : Int32)) dX11_approximate_19 rfl ?_
    exact rf_iret C dX11_approximate_20
  refine rf_aload_n C dX11_approximate_8 rfl 0 rfl ?_
  refine rf_get C (v := .ref ((gE Γ).2.1 13)) cfX11 flX11_40 (by decide) oX11 rfl dX11_approximate_9 ?_
  refine rf_iload_n C dX11_approximate_12 rfl 1 rfl ?_
  refine rf_callVi C (rmc := rmOf 0 0) [.int a1] (by decide) (mX3_roughDepthOf (gL Γ) a1 s1) mfX3_roughDepthOf mvX3_roughDepthOf mlX11_188 rfl oX3 rfl rfl rfl (Nat.le_of_ble_eq_true rfl) ⟨Nat.le_of_ble_eq_true rfl, Nat.le_of_ble_eq_true rfl⟩ dX11_approximate_13 (fun r4 s3 => ?_)
  refine rf_goto C 20 dX11_approximate_16 (by decide) ?_
  exact rf_iret C dX11_approximate_20

def fX11_deepest (n : Nat) (a1 : Int32) (s0 : PH) : Option (Int32 × PH) :=
(lt (nI 0) fun (v1 : Int32) =>
(lt (nI 0) fun (v2 : Int32) =>
(loo3 (fun (recrec6 : Int32 → Int32 → PH → Option (Int32 × PH)) (v3 : Int32) (v4 : Int32) (s5 : PH) =>
(if (nI 6) ≤ v4 then
(some (v3, s5))
else
(bd (fX11_isDefined v4 s5) fun (r8 : Int32) (s7 : PH) =>
(jn (fun (v9 : Int32) (s10 : PH) =>
(lt (v4 + (nI 1)) fun (v12 : Int32) =>
(recrec6 v9 v12 s10))) (fun (j11 : Int32 → PH → Option (Int32 × PH)) =>
(if r8 = 0 then
(j11 v3 s7)
else
(jn (fun (v13 : Int32) (s14 : PH) =>
(lt v13 fun (v16 : Int32) =>
(if v16 = (-9 : Int32) then
(some ((-9 : Int32), s14))
else
(lt (if v3 < v16 then v16 else v3) fun (v17 : Int32) =>
(j11 v17 s14))))) (fun (j15 : Int32 → PH → Option (Int32 × PH)) =>
(if a1 = 0 then
(bd (fX3_depthOf v4 s7) fun (r19 : Int32) (s18 : PH) =>
(j15 r19 s18))
else
(bd (fX3_roughDepthOf v4 s7) fun (r21 : Int32) (s20 : PH) =>
(j15 r21 s20))))))))))) n v1 v2 s0)))
set_option maxRecDepth 20000 in
set_option maxHeartbeats 2000000 in
theorem mX11_deepest (l : Launch) (n : Nat) (a1 : Int32) (s0 : PH) : Cti 148 l yX11_deepest cX11_deepest 5 (some .int) (rmOf 2 42) (fun E => [.ref (E.2.1 0), .int a1]) s0 (fX11_deepest n a1 s0) := by
  refine Cti.of (by decide) rfl (lv := fun E => [(0, .ref (E.2.1 0)), (1, .int a1)]) (fun _ => Nat.le_of_ble_eq_true rfl) (fun _ => rfl) (fun Γ hΓ _ C => ?_)
  subst hΓ
  unfold fX11_deepest
  refine rf_iconst C (v := (nI 0)) dX11_deepest_0 rfl ?_
  refine rf_istore_n C (fun v1 => [(2, .int v1), (0, .ref ((gE Γ).2.1 0)), (1, .int a1)]) dX11_deepest_1 rfl (by decide) (fun _ => rfl) (fun v1 => ?_)
  refine rf_iconst C (v := (nI 0)) dX11_deepest_2 rfl ?_
  refine rf_istore_n C (fun v2 => [(3, .int v2), (2, .int v1), (0, .ref ((gE Γ).2.1 0)), (1, .int a1)]) dX11_deepest_3 rfl (by decide) (fun _ => rfl) (fun v2 => ?_)
  refine rf_sub [2, 3, 1, 0] rfl ?_
  refine rf_loo3 (fun _ _ _ => True) (fun _ _ s5 => s5) (fun v3 v4 s5 => [(0, .ref ((gE Γ).2.1 0)), (1, .int a1), (2, .int v3), (3, .int v4)]) (fun recrec6 hrec6 v3 v4 s5 _ => ?_) n v1 v2 s0 trivial
  refine rf_iload_n C dX11_deepest_4 rfl 3 rfl ?_
  refine rf_bipush C (v := (nI 6)) dX11_deepest_5 rfl ?_
  refine rf_icmp_ge C 66 dX11_deepest_7 (by decide) (fun _ => ?_) (fun _ => ?_)
  · refine rf_iload_n C dX11_deepest_66 rfl 2 rfl ?_
    exact rf_iret C dX11_deepest_67
  refine rf_aload_n C dX11_deepest_10 rfl 0 rfl ?_
  refine rf_iload_n C dX11_deepest_11 rfl 3 rfl ?_
  refine rf_callVi C (rmc := rmOf 1 21) [.int v4] (by decide) (mX11_isDefined (gL Γ) v4 s5) mfX11_isDefined mvX11_isDefined mlX11_152 rfl oX11 rfl rfl rfl (Nat.le_of_ble_eq_true rfl) ⟨Nat.le_of_ble_eq_true rfl, Nat.le_of_ble_eq_true rfl⟩ dX11_deepest_12 (fun r8 s7 => ?_)
  refine rf_jn2 (fun _ _ => True) (fun _ s10 => s10) (fun v9 s10 => [(0, .ref ((gE Γ).2.1 0)), (1, .int a1), (2, .int v9), (3, .int v4)]) (fun v9 s10 => []) 60 (fun v9 s10 _ => ?_) (fun j11 hj11 => ?_)
  · refine rf_iinc C (fun v12 => [(3, .int v12), (0, .ref ((gE Γ).2.1 0)), (1, .int a1), (2, .int v9)]) dX11_deepest_60 3 rfl rfl (by decide) (fun _ => rfl) (fun v12 => ?_)
    refine rf_goto C 4 dX11_deepest_63 (by decide) ?_
    exact rf_sub [1, 2, 3, 0] rfl (hrec6 v9 v12 s10 trivial)
  refine rf_if_eq C 60 dX11_deepest_15 (by decide) (fun _ => ?_) (fun _ => ?_)
  · exact rf_sub [0, 1, 2, 3] rfl (hj11 v3 s7 trivial)
  refine rf_iload_n C dX11_deepest_18 rfl 1 rfl ?_
  refine rf_jn2 (fun _ _ => True) (fun _ s14 => s14) (fun v13 s14 => [(0, .ref ((gE Γ).2.1 0)), (1, .int a1), (2, .int v3), (3, .int v4)]) (fun v13 s14 => [.int v13]) 41 (fun v13 s14 _ => ?_) (fun j15 hj15 => ?_)
  · refine rf_istore C (fun v16 => [(4, .int v16), (0, .ref ((gE Γ).2.1 0)), (1, .int a1), (2, .int v3), (3, .int v4)]) dX11_deepest_41 (by decide) (fun _ => rfl) (fun v16 => ?_)
    refine rf_iload C dX11_deepest_43 0 rfl ?_
    refine rf_bipush C (v := (-9 : Int32)) dX11_deepest_45 rfl ?_
    refine rf_icmp_ne C 53 dX11_deepest_47 (by decide) (fun _ => ?_) (fun _ => ?_)
    · refine rf_iload_n C dX11_deepest_53 rfl 3 rfl ?_
      refine rf_iload C dX11_deepest_54 0 rfl ?_
      refine rf_mmax C mlX11_191 (Nat.le_of_ble_eq_true rfl) (Nat.le_of_ble_eq_true rfl) mthmax dX11_deepest_56 ?_
      refine rf_istore_n C (fun v17 => [(2, .int v17), (4, .int v16), (0, .ref ((gE Γ).2.1 0)), (1, .int a1), (3, .int v4)]) dX11_deepest_59 rfl (by decide) (fun _ => rfl) (fun v17 => ?_)
      exact rf_sub [2, 3, 0, 4] rfl (hj11 v17 s14 trivial)
    refine rf_bipush C (v := (-9 : Int32)) dX11_deepest_50 rfl ?_
    exact rf_iret C dX11_deepest_52
  refine rf_if_eq C 33 dX11_deepest_19 (by decide) (fun _ => ?_) (fun _ => ?_)
  · refine rf_aload_n C dX11_deepest_33 rfl 0 rfl ?_
    refine rf_get C (v := .ref ((gE Γ).2.1 13)) cfX11 flX11_40 (by decide) oX11 rfl dX11_deepest_34 ?_
    refine rf_iload_n C dX11_deepest_37 rfl 3 rfl ?_
    refine rf_callVi C (rmc := rmOf 0 0) [.int v4] (by decide) (mX3_depthOf (gL Γ) v4 s7) mfX3_depthOf mvX3_depthOf mlX11_185 rfl oX3 rfl rfl rfl (Nat.le_of_ble_eq_true rfl) ⟨Nat.le_of_ble_eq_true rfl, Nat.le_of_ble_eq_true rfl⟩ dX11_deepest_38 (fun r19 s18 => ?_)
    exact rf_sub [0, 1, 2, 3] rfl (hj15 r19 s18 trivial)
  refine rf_aload_n C dX11_deepest_22 rfl 0 rfl ?_
  refine rf_get C (v := .ref ((gE Γ).2.1 13)) cfX11 flX11_40 (by decide) oX11 rfl dX11_deepest_23 ?_
  refine rf_iload_n C dX11_deepest_26 rfl 3 rfl ?_
  refine rf_callVi C (rmc := rmOf 0 0) [.int v4] (by decide) (mX3_roughDepthOf (gL Γ) v4 s7) mfX3_roughDepthOf mvX3_roughDepthOf mlX11_188 rfl oX3 rfl rfl rfl (Nat.le_of_ble_eq_true rfl) ⟨Nat.le_of_ble_eq_true rfl, Nat.le_of_ble_eq_true rfl⟩ dX11_deepest_27 (fun r21 s20 => ?_)
  refine rf_goto C 41 dX11_deepest_30 (by decide) ?_
  exact rf_sub [0, 1, 2, 3] rfl (hj15 r21 s20 trivial)

def fX11_clash (n : Nat) (a1 : Int32) (a2 : Int32) (s0 : PH) : Option (Int32 × PH) :=
(bd (fX11_isDefined a1 s0) fun (r2 : Int32) (s1 : PH) =>
(if r2 = 0 then
(some ((-1 : Int32), s1))
else
(bd (fX11_isLookahead a2 s1) fun (r4 : Int32) (s3 : PH) =>
(if r4 = 0 then
(some ((-1 : Int32), s3))
else
(lt (s3.2.2 0 8) fun (g5 : Nat) =>
(bd (fX3_firstClash n g5 a1 a2 s3) fun (r7 : Int32) (s6 : PH) =>
(some (r7, s6))))))))
set_option maxRecDepth 20000 in
set_option maxHeartbeats 2000000 in
theorem mX11_clash (l : Launch) (n : Nat) (a1 : Int32) (a2 : Int32) (s0 : PH) : Cti 148 l yX11_clash cX11_clash 3 (some .int) (rmOf 2 48) (fun E => [.ref (E.2.1 0), .int a1, .int a2]) s0 (fX11_clash n a1 a2 s0) := by
  refine Cti.of (by decide) rfl (lv := fun E => [(0, .ref (E.2.1 0)), (1, .int a1), (2, .int a2)]) (fun _ => Nat.le_of_ble_eq_true rfl) (fun _ => rfl) (fun Γ hΓ _ C => ?_)
  subst hΓ
  unfold fX11_clash
  refine rf_aload_n C dX11_clash_0 rfl 0 rfl ?_
  refine rf_iload_n C dX11_clash_1 rfl 1 rfl ?_
  refine rf_callVi C (rmc := rmOf 1 21) [.int a1] (by decide) (mX11_isDefined (gL Γ) a1 s0) mfX11_isDefined mvX11_isDefined mlX11_152 rfl oX11 rfl rfl rfl (Nat.le_of_ble_eq_true rfl) ⟨Nat.le_of_ble_eq_true rfl, Nat.le_of_ble_eq_true rfl⟩ dX11_clash_2 (fun r2 s1 => ?_)
  refine rf_if_eq C 15 dX11_clash_5 (by decide) (fun _ => ?_) (fun _ => ?_)
  · refine rf_iconst C (v := (-1 : Int32)) dX11_clash_15 rfl ?_
    exact rf_iret C dX11_clash_16
  refine rf_iload_n C dX11_clash_8 rfl 2 rfl ?_
  refine rf_callSi C (rmc := rmOf 0 0) [.int a2] (by decide) (mX11_isLookahead (gL Γ) a2 s1) mfX11_isLookahead msX11_isLookahead mlX11_173 rfl rfl rfl (Nat.le_of_ble_eq_true rfl) ⟨Nat.le_of_ble_eq_true rfl, Nat.le_of_ble_eq_true rfl⟩ dX11_clash_9 (fun r4 s3 => ?_)
  refine rf_if_ne C 17 dX11_clash_12 (by decide) (fun _ => ?_) (fun _ => ?_)
  · refine rf_aload_n C dX11_clash_17 rfl 0 rfl ?_
    refine rf_get C (v := .ref ((gE Γ).2.1 13)) cfX11 flX11_40 (by decide) oX11 rfl dX11_clash_18 ?_
    refine rf_aload_n C dX11_clash_21 rfl 0 rfl ?_
    refine rf_getG C cfX11 flX11_68 (by decide) oX11 (fun _ _ _ _ => rfl) dX11_clash_22 (fun g5 hg5 => ?_)
    refine rf_iload_n C dX11_clash_25 rfl 1 rfl ?_
    refine rf_iload_n C dX11_clash_26 rfl 2 rfl ?_
    refine rf_callVi C (rmc := rmOf 1 23) [.ref ((gE Γ).2.1 (gId g5 0)), .int a1, .int a2] (by decide) (mX3_firstClash (gL Γ) n g5 a1 a2 s3 hg5) mfX3_firstClash mvX3_firstClash mlX11_196 rfl oX3 rfl rfl rfl (Nat.le_of_ble_eq_true rfl) ⟨Nat.le_of_ble_eq_true rfl, Nat.le_of_ble_eq_true rfl⟩ dX11_clash_27 (fun r7 s6 => ?_)
    exact rf_iret C dX11_clash_30
  refine rf_iconst C (v := (-1 : Int32)) dX11_clash_15 rfl ?_
  exact rf_iret C dX11_clash_16

def fX11_clashWord (n : Nat) (a1 : Int32) (a2 : Int32) (a3 : Int32) (s0 : PH) : Option (Int32 × PH) :=
(lt (s0.2.2 0 8) fun (g1 : Nat) =>
(bd (fX4_has g1 a1 s0) fun (r3 : Int32) (s2 : PH) =>
(if r3 = 0 then
(some ((-1 : Int32), s2))
else
(lt (s2.2.2 0 8) fun (g4 : Nat) =>
(bd (fX4_has g4 a2 s2) fun (r6 : Int32) (s5 : PH) =>
(if r6 = 0 then
(some ((-1 : Int32), s5))
else
(bd (fX11_isLookahead a3 s5) fun (r8 : Int32) (s7 : PH) =>
(if r8 = 0 then
(some ((-1 : Int32), s7))
else
(bd (fX3_aheadOf a1 s7) fun (w10 : Nat) (s9 : PH) =>
(bd (fX3_aheadOf a2 s9) fun (w12 : Nat) (s11 : PH) =>
(lt (nI 0) fun (v13 : Int32) =>
(loo2 (fun (recrec16 : Int32 → PH → Option (Int32 × PH)) (v14 : Int32) (s15 : PH) =>
(ra 4 a3 lim fun (v17 : Int32) =>
(if v17 ≤ v14 then
(some ((-9 : Int32), s15))
else
(bd (fX11_isWord n v14 a3 s15) fun (r19 : Int32) (s18 : PH) =>
(jn (fun (s20 : PH) =>
(lt (v14 + (nI 1)) fun (v22 : Int32) =>
(recrec16 v22 s20))) (fun (j21 : PH → Option (Int32 × PH)) =>
(if r19 = 0 then
(j21 s18)
else
(bd (fX10_has w10 v14 a3 s18) fun (r24 : Int32) (s23 : PH) =>
(if r24 = 0 then
(j21 s23)
else
(bd (fX10_has w12 v14 a3 s23) fun (r26 : Int32) (s25 : PH) =>
(if r26 = 0 then
(j21 s25)
else
(some (v14, s25))))))))))))) n v13 s11))))))))))))
set_option maxRecDepth 20000 in
set_option maxHeartbeats 2000000 in
theorem mX11_clashWord (l : Launch) (n : Nat) (a1 : Int32) (a2 : Int32) (a3 : Int32) (s0 : PH) : Cti 148 l yX11_clashWord cX11_clashWord 7 (some .int) (rmOf 2 43) (fun E => [.ref (E.2.1 0), .int a1, .int a2, .int a3]) s0 (fX11_clashWord n a1 a2 a3 s0) := by
  refine Cti.of (by decide) rfl (lv := fun E => [(0, .ref (E.2.1 0)), (1, .int a1), (2, .int a2), (3, .int a3)]) (fun _ => Nat.le_of_ble_eq_true rfl) (fun _ => rfl) (fun Γ hΓ _ C => ?_)
  subst hΓ
  unfold fX11_clashWord
  refine rf_aload_n C dX11_clashWord_0 rfl 0 rfl ?_
  refine rf_getG C cfX11 flX11_68 (by decide) oX11 (fun _ _ _ _ => rfl) dX11_clashWord_1 (fun g1 hg1 => ?_)
  refine rf_iload_n C dX11_clashWord_4 rfl 1 rfl ?_
  refine rf_callVi C (rmc := rmOf 0 0) [.int a1] (by decide) (mX4_has (gL Γ) g1 a1 s0 hg1) mfX4_has mvX4_has mlX11_113 rfl (oX4 hg1) rfl rfl rfl (Nat.le_of_ble_eq_true rfl) ⟨Nat.le_of_ble_eq_true rfl, Nat.le_of_ble_eq_true rfl⟩ dX11_clashWord_5 (fun r3 s2 => ?_)
  refine rf_if_eq C 29 dX11_clashWord_8 (by decide) (fun _ => ?_) (fun _ => ?_)
  · refine rf_iconst C (v := (-1 : Int32)) dX11_clashWord_29 rfl ?_
    exact rf_iret C dX11_clashWord_30
  refine rf_aload_n C dX11_clashWord_11 rfl 0 rfl ?_
  refine rf_getG C cfX11 flX11_68 (by decide) oX11 (fun _ _ _ _ => rfl) dX11_clashWord_12 (fun g4 hg4 => ?_)
  refine rf_iload_n C dX11_clashWord_15 rfl 2 rfl ?_
  refine rf_callVi C (rmc := rmOf 0 0) [.int a2] (by decide) (mX4_has (gL Γ) g4 a2 s2 hg4) mfX4_has mvX4_has mlX11_113 rfl (oX4 hg4) rfl rfl rfl (Nat.le_of_ble_eq_true rfl) ⟨Nat.le_of_ble_eq_true rfl, Nat.le_of_ble_eq_true rfl⟩ dX11_clashWord_16 (fun r6 s5 => ?_)
  refine rf_if_eq C 29 dX11_clashWord_19 (by decide) (fun _ => ?_) (fun _ => ?_)
  · refine rf_iconst C (v := (-1 : Int32)) dX11_clashWord_29 rfl ?_
    exact rf_iret C dX11_clashWord_30
  refine rf_iload_n C dX11_clashWord_22 rfl 3 rfl ?_
  refine rf_callSi C (rmc := rmOf 0 0) [.int a3] (by decide) (mX11_isLookahead (gL Γ) a3 s5) mfX11_isLookahead msX11_isLookahead mlX11_173 rfl rfl rfl (Nat.le_of_ble_eq_true rfl) ⟨Nat.le_of_ble_eq_true rfl, Nat.le_of_ble_eq_true rfl⟩ dX11_clashWord_23 (fun r8 s7 => ?_)
  refine rf_if_ne C 31 dX11_clashWord_26 (by decide) (fun _ => ?_) (fun _ => ?_)
  · refine rf_aload_n C dX11_clashWord_31 rfl 0 rfl ?_
    refine rf_get C (v := .ref ((gE Γ).2.1 13)) cfX11 flX11_40 (by decide) oX11 rfl dX11_clashWord_32 ?_
    refine rf_iload_n C dX11_clashWord_35 rfl 1 rfl ?_
    refine rf_callVw C (rmc := rmOf 0 0) [.int a1] (by decide) (mX3_aheadOf (gL Γ) a1 s7) mfX3_aheadOf mvX3_aheadOf mlX11_170 rfl oX3 rfl rfl rfl (Nat.le_of_ble_eq_true rfl) ⟨Nat.le_of_ble_eq_true rfl, Nat.le_of_ble_eq_true rfl⟩ dX11_clashWord_36 (fun w10 s9 hw10 => ?_)
    refine rf_astore C [(4, .ref ((gE Γ).2.1 (wId w10 0))), (0, .ref ((gE Γ).2.1 0)), (1, .int a1), (2, .int a2), (3, .int a3)] dX11_clashWord_39 (by decide) rfl ?_
    refine rf_aload_n C dX11_clashWord_41 rfl 1 rfl ?_
    refine rf_get C (v := .ref ((gE Γ).2.1 13)) cfX11 flX11_40 (by decide) oX11 rfl dX11_clashWord_42 ?_
    refine rf_iload_n C dX11_clashWord_45 rfl 3 rfl ?_
    refine rf_callVw C (rmc := rmOf 0 0) [.int a2] (by decide) (mX3_aheadOf (gL Γ) a2 s9) mfX3_aheadOf mvX3_aheadOf mlX11_170 rfl oX3 rfl rfl rfl (Nat.le_of_ble_eq_true rfl) ⟨Nat.le_of_ble_eq_true rfl, Nat.le_of_ble_eq_true rfl⟩ dX11_clashWord_46 (fun w12 s11 hw12 => ?_)
    refine rf_astore C [(5, .ref ((gE Γ).2.1 (wId w12 0))), (4, .ref ((gE Γ).2.1 (wId w10 0))), (0, .ref ((gE Γ).2.1 0)), (1, .int a1), (2, .int a2), (3, .int a3)] dX11_clashWord_49 (by decide) rfl ?_
    refine rf_iconst C (v := (nI 0)) dX11_clashWord_51 rfl ?_
    refine rf_istore C (fun v13 => [(6, .int v13), (5, .ref ((gE Γ).2.1 (wId w12 0))), (4, .ref ((gE Γ).2.1 (wId w10 0))), (0, .ref ((gE Γ).2.1 0)), (1, .int a1), (2, .int a2), (3, .int a3)]) dX11_clashWord_52 (by decide) (fun _ => rfl) (fun v13 => ?_)
    refine rf_sub [6, 2, 1, 0] rfl ?_
    refine rf_loo2 (fun _ _ => True) (fun _ s15 => s15) (fun v14 s15 => [(3, .int a3), (4, .ref ((gE Γ).2.1 (wId w10 0))), (5, .ref ((gE Γ).2.1 (wId w12 0))), (6, .int v14)]) (fun recrec16 hrec16 v14 s15 _ => ?_) n v13 s11 trivial
    refine rf_iload C dX11_clashWord_54 3 rfl ?_
    refine rf_gets C fsX11_178 dX11_clashWord_56 ?_
    refine rf_iload_n C dX11_clashWord_59 rfl 0 rfl ?_
    refine rf_tald C dX11_clashWord_60 (fun v17 => ?_)
    refine rf_icmp_ge C 104 dX11_clashWord_61 (by decide) (fun _ => ?_) (fun _ => ?_)
    · refine rf_bipush C (v := (-9 : Int32)) dX11_clashWord_104 rfl ?_
      exact rf_iret C dX11_clashWord_106
    refine rf_iload C dX11_clashWord_64 3 rfl ?_
    refine rf_iload_n C dX11_clashWord_66 rfl 0 rfl ?_
    refine rf_callSi C (rmc := rmOf 1 20) [.int v14, .int a3] (by decide) (mX11_isWord (gL Γ) n v14 a3 s15) mfX11_isWord msX11_isWord mlX11_155 rfl rfl rfl (Nat.le_of_ble_eq_true rfl) ⟨Nat.le_of_ble_eq_true rfl, Nat.le_of_ble_eq_true rfl⟩ dX11_clashWord_67 (fun r19 s18 => ?_)
    refine rf_jn1 (fun _ => True) (fun  s20 => s20) (fun s20 => [(3, .int a3), (4, .ref ((gE Γ).2.1 (wId w10 0))), (5, .ref ((gE Γ).2.1 (wId w12 0))), (6, .int v14)]) (fun s20 => []) 98 (fun s20 _ => ?_) (fun j21 hj21 => ?_)
    · refine rf_iinc C (fun v22 => [(6, .int v22), (3, .int a3), (4, .ref ((gE Γ).2.1 (wId w10 0))), (5, .ref ((gE Γ).2.1 (wId w12 0)))]) dX11_clashWord_98 3 rfl rfl (by decide) (fun _ => rfl) (fun v22 => ?_)
      refine rf_goto C 54 dX11_clashWord_101 (by decide) ?_
      exact rf_sub [1, 2, 3, 0] rfl (hrec16 v22 s20 trivial)
    refine rf_if_eq C 98 dX11_clashWord_70 (by decide) (fun _ => ?_) (fun _ => ?_)
    · exact rf_sub [0, 1, 2, 3] rfl (hj21 s18 trivial)
    refine rf_aload C dX11_clashWord_73 1 rfl ?_
    refine rf_iload C dX11_clashWord_75 3 rfl ?_
    refine rf_iload_n C dX11_clashWord_77 rfl 0 rfl ?_
    refine rf_callVi C (rmc := rmOf 0 0) [.int v14, .int a3] (by decide) (mX10_has (gL Γ) w10 v14 a3 s18 hw10) mfX10_has mvX10_has mlX11_163 rfl (oX10 hw10) rfl rfl rfl (Nat.le_of_ble_eq_true rfl) ⟨Nat.le_of_ble_eq_true rfl, Nat.le_of_ble_eq_true rfl⟩ dX11_clashWord_78 (fun r24 s23 => ?_)
    refine rf_if_eq C 98 dX11_clashWord_81 (by decide) (fun _ => ?_) (fun _ => ?_)
    · exact rf_sub [0, 1, 2, 3] rfl (hj21 s23 trivial)
    refine rf_aload C dX11_clashWord_84 2 rfl ?_
    refine rf_iload C dX11_clashWord_86 3 rfl ?_
    refine rf_iload_n C dX11_clashWord_88 rfl 0 rfl ?_
    refine rf_callVi C (rmc := rmOf 0 0) [.int v14, .int a3] (by decide) (mX10_has (gL Γ) w12 v14 a3 s23 hw12) mfX10_has mvX10_has mlX11_163 rfl (oX10 hw12) rfl rfl rfl (Nat.le_of_ble_eq_true rfl) ⟨Nat.le_of_ble_eq_true rfl, Nat.le_of_ble_eq_true rfl⟩ dX11_clashWord_89 (fun r26 s25 => ?_)
    refine rf_if_eq C 98 dX11_clashWord_92 (by decide) (fun _ => ?_) (fun _ => ?_)
    · exact rf_sub [0, 1, 2, 3] rfl (hj21 s25 trivial)
    refine rf_iload C dX11_clashWord_95 3 rfl ?_
    exact rf_iret C dX11_clashWord_97
  refine rf_iconst C (v := (-1 : Int32)) dX11_clashWord_29 rfl ?_
  exact rf_iret C dX11_clashWord_30

def fX6_forget (s0 : PH) : Option (Unit × PH) :=
(lt (si s0 21 3 (nI 0)) fun (s1 : PH) =>
(some ((), s1)))
set_option maxRecDepth 20000 in
set_option maxHeartbeats 2000000 in
theorem mX6_forget (l : Launch) (s0 : PH) : Ctv 148 l yX6_forget cX6_forget 1 none (rmOf 0 0) (fun E => [.ref (E.2.1 21)]) s0 (fX6_forget s0) := by
  refine Ctv.of (by decide) rfl (lv := fun E => [(0, .ref (E.2.1 21))]) (fun _ => Nat.le_of_ble_eq_true rfl) (fun _ => rfl) (fun Γ hΓ _ C => ?_)
  subst hΓ
  unfold fX6_forget
  refine rf_aload_n C dX6_forget_0 rfl 0 rfl ?_
  refine rf_iconst C (v := (nI 0)) dX6_forget_1 rfl ?_
  refine rf_puti C cfX6 flX6_22 (by decide) rfl oX6 (fty := .int) rfl rfl rfl (fun _ _ _ _ => Nat.le_of_ble_eq_true rfl) (fun _ _ _ _ => rfl) dX6_forget_2 (fun s1 => ?_)
  exact rf_vret C dX6_forget_5

def fX9_recursesReachably (s0 : PH) : Option (Int32 × PH) :=
(if ((s0.1 7 8) &&& (s0.1 7 7)) = 0 then
(some ((nI 0), s0))
else
(some ((nI 1), s0)))
set_option maxRecDepth 20000 in
set_option maxHeartbeats 2000000 in
theorem mX9_recursesReachably (l : Launch) (s0 : PH) : Cti 148 l yX9_recursesReachably cX9_recursesReachably 1 (some .boolean) (rmOf 0 0) (fun E => [.ref (E.2.1 7)]) s0 (fX9_recursesReachably s0) := by
  refine Cti.of (by decide) rfl (lv := fun E => [(0, .ref (E.2.1 7))]) (fun _ => Nat.le_of_ble_eq_true rfl) (fun _ => rfl) (fun Γ hΓ _ C => ?_)
  subst hΓ
  unfold fX9_recursesReachably
  refine rf_aload_n C dX9_recursesReachably_0 rfl 0 rfl ?_
  refine rf_get C (v := .int (s0.1 7 8)) cfX9 flX9_37 (by decide) oX9 rfl dX9_recursesReachably_1 ?_
  refine rf_aload_n C dX9_recursesReachably_4 rfl 0 rfl ?_
  refine rf_get C (v := .int (s0.1 7 7)) cfX9 flX9_34 (by decide) oX9 rfl dX9_recursesReachably_5 ?_
  refine rf_iand C dX9_recursesReachably_8 ?_
  refine rf_if_eq C 16 dX9_recursesReachably_9 (by decide) (fun _ => ?_) (fun _ => ?_)
  · refine rf_iconst C (v := (nI 0)) dX9_recursesReachably_16 rfl ?_
    exact rf_zret C rfl dX9_recursesReachably_17
  refine rf_iconst C (v := (nI 1)) dX9_recursesReachably_12 rfl ?_
  refine rf_goto C 17 dX9_recursesReachably_13 (by decide) ?_
  exact rf_zret C rfl dX9_recursesReachably_17

def fX8_inputFault (n : Nat) (s0 : PH) : Option (Int32 × PH) :=
(lt (nI 0) fun (v1 : Int32) =>
(loo2 (fun (recrec4 : Int32 → PH → Option (Int32 × PH)) (v2 : Int32) (s3 : PH) =>
(if (s3.1 1 1) ≤ v2 then
(some ((-9 : Int32), s3))
else
(if (nI 8) ≤ v2 then
(some (v2, s3))
else
(ra 100 v2 (s3.1 2) fun (v5 : Int32) =>
(if v5 < (nI 97) then
(some (v2, s3))
else
(ra 100 v2 (s3.1 2) fun (v6 : Int32) =>
(if v6 < (nI 102) then
(lt (v2 + (nI 1)) fun (v7 : Int32) =>
(recrec4 v7 s3))
else
(some (v2, s3))))))))) n v1 s0))
set_option maxRecDepth 20000 in
set_option maxHeartbeats 2000000 in
theorem mX8_inputFault (l : Launch) (n : Nat) (s0 : PH) : Cti 148 l yX8_inputFault cX8_inputFault 2 (some .int) (rmOf 0 0) (fun E => [.ref (E.2.1 1)]) s0 (fX8_inputFault n s0) := by
  refine Cti.of (by decide) rfl (lv := fun E => [(0, .ref (E.2.1 1))]) (fun _ => Nat.le_of_ble_eq_true rfl) (fun _ => rfl) (fun Γ hΓ _ C => ?_)
  subst hΓ
  unfold fX8_inputFault
  refine rf_iconst C (v := (nI 0)) dX8_inputFault_0 rfl ?_
  refine rf_istore_n C (fun v1 => [(1, .int v1), (0, .ref ((gE Γ).2.1 1))]) dX8_inputFault_1 rfl (by decide) (fun _ => rfl) (fun v1 => ?_)
  refine rf_sub [1, 0] rfl ?_
  refine rf_loo2 (fun _ _ => True) (fun _ s3 => s3) (fun v2 s3 => [(0, .ref ((gE Γ).2.1 1)), (1, .int v2)]) (fun recrec4 hrec4 v2 s3 _ => ?_) n v1 s0 trivial
  refine rf_iload_n C dX8_inputFault_2 rfl 1 rfl ?_
  refine rf_aload_n C dX8_inputFault_3 rfl 0 rfl ?_
  refine rf_get C (v := .int (s3.1 1 1)) cfX8 flX8_15 (by decide) oX8 rfl dX8_inputFault_4 ?_
  refine rf_icmp_ge C 46 dX8_inputFault_7 (by decide) (fun _ => ?_) (fun _ => ?_)
  · refine rf_bipush C (v := (-9 : Int32)) dX8_inputFault_46 rfl ?_
    exact rf_iret C dX8_inputFault_48
  refine rf_iload_n C dX8_inputFault_10 rfl 1 rfl ?_
  refine rf_bipush C (v := (nI 8)) dX8_inputFault_11 rfl ?_
  refine rf_icmp_ge C 38 dX8_inputFault_13 (by decide) (fun _ => ?_) (fun _ => ?_)
  · refine rf_iload_n C dX8_inputFault_38 rfl 1 rfl ?_
    exact rf_iret C dX8_inputFault_39
  refine rf_aload_n C dX8_inputFault_16 rfl 0 rfl ?_
  refine rf_get C (v := .ref ((gE Γ).2.1 2)) cfX8 flX8_9 (by decide) oX8 rfl dX8_inputFault_17 ?_
  refine rf_iload_n C dX8_inputFault_20 rfl 1 rfl ?_
  refine rf_iald C ar2 dX8_inputFault_21 (fun v5 => ?_)
  refine rf_bipush C (v := (nI 97)) dX8_inputFault_22 rfl ?_
  refine rf_icmp_lt C 38 dX8_inputFault_24 (by decide) (fun _ => ?_) (fun _ => ?_)
  · refine rf_iload_n C dX8_inputFault_38 rfl 1 rfl ?_
    exact rf_iret C dX8_inputFault_39
  refine rf_aload_n C dX8_inputFault_27 rfl 0 rfl ?_
  refine rf_get C (v := .ref ((gE Γ).2.1 2)) cfX8 flX8_9 (by decide) oX8 rfl dX8_inputFault_28 ?_
  refine rf_iload_n C dX8_inputFault_31 rfl 1 rfl ?_
  refine rf_iald C ar2 dX8_inputFault_32 (fun v6 => ?_)
  refine rf_bipush C (v := (nI 102)) dX8_inputFault_33 rfl ?_
  refine rf_icmp_lt C 40 dX8_inputFault_35 (by decide) (fun _ => ?_) (fun _ => ?_)
  · refine rf_iinc C (fun v7 => [(1, .int v7), (0, .ref ((gE Γ).2.1 1))]) dX8_inputFault_40 1 rfl rfl (by decide) (fun _ => rfl) (fun v7 => ?_)
    refine rf_goto C 2 dX8_inputFault_43 (by decide) ?_
    exact rf_sub [1, 0] rfl (hrec4 v7 s3 trivial)
  refine rf_iload_n C dX8_inputFault_38 rfl 1 rfl ?_
  exact rf_iret C dX8_inputFault_39

def fX8_letterAt (a1 : Int32) (s0 : PH) : Option (Int32 × PH) :=
(bd (fX8_at a1 s0) fun (r2 : Int32) (s1 : PH) =>
(some ((r2 - (nI 97)), s1)))
set_option maxRecDepth 20000 in
set_option maxHeartbeats 2000000 in
theorem mX8_letterAt (l : Launch) (a1 : Int32) (s0 : PH) : Cti 148 l yX8_letterAt cX8_letterAt 2 (some .int) (rmOf 1 21) (fun E => [.ref (E.2.1 1), .int a1]) s0 (fX8_letterAt a1 s0) := by
  refine Cti.of (by decide) rfl (lv := fun E => [(0, .ref (E.2.1 1)), (1, .int a1)]) (fun _ => Nat.le_of_ble_eq_true rfl) (fun _ => rfl) (fun Γ hΓ _ C => ?_)
  subst hΓ
  unfold fX8_letterAt
  refine rf_aload_n C dX8_letterAt_0 rfl 0 rfl ?_
  refine rf_iload_n C dX8_letterAt_1 rfl 1 rfl ?_
  refine rf_callVi C (rmc := rmOf 0 0) [.int a1] (by decide) (mX8_at (gL Γ) a1 s0) mfX8_at mvX8_at mlX8_19 rfl oX8 rfl rfl rfl (Nat.le_of_ble_eq_true rfl) ⟨Nat.le_of_ble_eq_true rfl, Nat.le_of_ble_eq_true rfl⟩ dX8_letterAt_2 (fun r2 s1 => ?_)
  refine rf_bipush C (v := (nI 97)) dX8_letterAt_5 rfl ?_
  refine rf_isub C dX8_letterAt_7 ?_
  exact rf_iret C dX8_letterAt_8

def fX6_beginning (n : Nat) (a2 : Int32) (a3 : Int32) (s0 : PH) : Option (Int32 × PH) :=
(lt (nI 0) fun (v1 : Int32) =>
(lt a2 fun (v2 : Int32) =>
(loo3 (fun (recrec6 : Int32 → Int32 → PH → Option (Int32 × PH)) (v3 : Int32) (v4 : Int32) (s5 : PH) =>
(if (a2 + a3) ≤ v4 then
(some (v3, s5))
else
(bd (fX8_size s5) fun (r8 : Int32) (s7 : PH) =>
(if r8 ≤ v4 then
(some (v3, s7))
else
(bd (fX8_letterAt v4 s7) fun (r10 : Int32) (s9 : PH) =>
(lt ((((nI 6) * v3) + r10) + (nI 1)) fun (v11 : Int32) =>
(lt (v4 + (nI 1)) fun (v12 : Int32) =>
(recrec6 v11 v12 s9)))))))) n v1 v2 s0)))
set_option maxRecDepth 20000 in
set_option maxHeartbeats 2000000 in
theorem mX6_beginning (l : Launch) (n : Nat) (a2 : Int32) (a3 : Int32) (s0 : PH) : Cti 148 l yX6_beginning cX6_beginning 5 (some .int) (rmOf 2 42) (fun E => [.ref (E.2.1 1), .int a2, .int a3]) s0 (fX6_beginning n a2 a3 s0) := by
  refine Cti.of (by decide) rfl (lv := fun E => [(0, .ref (E.2.1 1)), (1, .int a2), (2, .int a3)]) (fun _ => Nat.le_of_ble_eq_true rfl) (fun _ => rfl) (fun Γ hΓ _ C => ?_)
  subst hΓ
  unfold fX6_beginning
  refine rf_iconst C (v := (nI 0)) dX6_beginning_0 rfl ?_
  refine rf_istore_n C (fun v1 => [(3, .int v1), (0, .ref ((gE Γ).2.1 1)), (1, .int a2), (2, .int a3)]) dX6_beginning_1 rfl (by decide) (fun _ => rfl) (fun v1 => ?_)
  refine rf_iload_n C dX6_beginning_2 rfl 2 rfl ?_
  refine rf_istore C (fun v2 => [(4, .int v2), (3, .int v1), (0, .ref ((gE Γ).2.1 1)), (1, .int a2), (2, .int a3)]) dX6_beginning_3 (by decide) (fun _ => rfl) (fun v2 => ?_)
  refine rf_sub [2, 3, 4, 1, 0] rfl ?_
  refine rf_loo3 (fun _ _ _ => True) (fun _ _ s5 => s5) (fun v3 v4 s5 => [(0, .ref ((gE Γ).2.1 1)), (1, .int a2), (2, .int a3), (3, .int v3), (4, .int v4)]) (fun recrec6 hrec6 v3 v4 s5 _ => ?_) n v1 v2 s0 trivial
  refine rf_iload C dX6_beginning_5 4 rfl ?_
  refine rf_iload_n C dX6_beginning_7 rfl 1 rfl ?_
  refine rf_iload_n C dX6_beginning_8 rfl 2 rfl ?_
  refine rf_iadd C dX6_beginning_9 ?_
  refine rf_icmp_ge C 42 dX6_beginning_10 (by decide) (fun _ => ?_) (fun _ => ?_)
  · refine rf_iload_n C dX6_beginning_42 rfl 3 rfl ?_
    exact rf_iret C dX6_beginning_43
  refine rf_iload C dX6_beginning_13 4 rfl ?_
  refine rf_aload_n C dX6_beginning_15 rfl 0 rfl ?_
  refine rf_callVi C (rmc := rmOf 0 0) [] (by decide) (mX8_size (gL Γ) s5) mfX8_size mvX8_size mlX6_58 rfl oX8 rfl rfl rfl (Nat.le_of_ble_eq_true rfl) ⟨Nat.le_of_ble_eq_true rfl, Nat.le_of_ble_eq_true rfl⟩ dX6_beginning_16 (fun r8 s7 => ?_)
  refine rf_icmp_ge C 42 dX6_beginning_19 (by decide) (fun _ => ?_) (fun _ => ?_)
  · refine rf_iload_n C dX6_beginning_42 rfl 3 rfl ?_
    exact rf_iret C dX6_beginning_43
  refine rf_bipush C (v := (nI 6)) dX6_beginning_22 rfl ?_
  refine rf_iload_n C dX6_beginning_24 rfl 3 rfl ?_
  refine rf_imul C dX6_beginning_25 ?_
  refine rf_aload_n C dX6_beginning_26 rfl 0 rfl ?_
  refine rf_iload C dX6_beginning_27 4 rfl ?_
  refine rf_callVi C (rmc := rmOf 1 21) [.int v4] (by decide) (mX8_letterAt (gL Γ) v4 s7) mfX8_letterAt mvX8_letterAt mlX6_35 rfl oX8 rfl rfl rfl (Nat.le_of_ble_eq_true rfl) ⟨Nat.le_of_ble_eq_true rfl, Nat.le_of_ble_eq_true rfl⟩ dX6_beginning_29 (fun r10 s9 => ?_)
  refine rf_iadd C dX6_beginning_32 ?_
  refine rf_iconst C (v := (nI 1)) dX6_beginning_33 rfl ?_
  refine rf_iadd C dX6_beginning_34 ?_
  refine rf_istore_n C (fun v11 => [(3, .int v11), (0, .ref ((gE Γ).2.1 1)), (1, .int a2), (2, .int a3), (4, .int v4)]) dX6_beginning_35 rfl (by decide) (fun _ => rfl) (fun v11 => ?_)
  refine rf_iinc C (fun v12 => [(4, .int v12), (3, .int v11), (0, .ref ((gE Γ).2.1 1)), (1, .int a2), (2, .int a3)]) dX6_beginning_36 4 rfl rfl (by decide) (fun _ => rfl) (fun v12 => ?_)
  refine rf_goto C 5 dX6_beginning_39 (by decide) ?_
  exact rf_sub [2, 3, 4, 1, 0] rfl (hrec6 v11 v12 s9 trivial)

def fX6_choose (n : Nat) (a1 : Nat) (a3 : Int32) (a4 : Int32) (a5 : Int32) (s0 : PH) : Option (Int32 × PH) :=
(bd (fX4_begin a1 a3 s0) fun (r2 : Int32) (s1 : PH) =>
(lt r2 fun (v3 : Int32) =>
(loo2 (fun (recrec6 : Int32 → PH → Option (Int32 × PH)) (v4 : Int32) (s5 : PH) =>
(bd (fX4_end a1 a3 s5) fun (r8 : Int32) (s7 : PH) =>
(if r8 ≤ v4 then
(some ((-9 : Int32), s7))
else
(bd (fX3_aheadOf v4 s7) fun (w10 : Nat) (s9 : PH) =>
(bd (fX10_has w10 a5 a4 s9) fun (r12 : Int32) (s11 : PH) =>
(if r12 = 0 then
(lt (v4 + (nI 1)) fun (v13 : Int32) =>
(recrec6 v13 s11))
else
(some (v4, s11)))))))) n v3 s1)))
set_option maxRecDepth 20000 in
set_option maxHeartbeats 2000000 in
theorem mX6_choose (l : Launch) (n : Nat) (a1 : Nat) (a3 : Int32) (a4 : Int32) (a5 : Int32) (s0 : PH) (ha1 : a1 < 6) : Cti 148 l yX6_choose cX6_choose 6 (some .int) (rmOf 1 23) (fun E => [.ref (E.2.1 (gId a1 0)), .ref (E.2.1 13), .int a3, .int a4, .int a5]) s0 (fX6_choose n a1 a3 a4 a5 s0) := by
  refine Cti.of (by decide) rfl (lv := fun E => [(0, .ref (E.2.1 (gId a1 0))), (1, .ref (E.2.1 13)), (2, .int a3), (3, .int a4), (4, .int a5)]) (fun _ => Nat.le_of_ble_eq_true rfl) (fun _ => rfl) (fun Γ hΓ _ C => ?_)
  subst hΓ
  unfold fX6_choose
  refine rf_aload_n C dX6_choose_0 rfl 0 rfl ?_
  refine rf_iload_n C dX6_choose_1 rfl 2 rfl ?_
  refine rf_callVi C (rmc := rmOf 0 0) [.int a3] (by decide) (mX4_begin (gL Γ) a1 a3 s0 ha1) mfX4_begin mvX4_begin mlX6_61 rfl (oX4 ha1) rfl rfl rfl (Nat.le_of_ble_eq_true rfl) ⟨Nat.le_of_ble_eq_true rfl, Nat.le_of_ble_eq_true rfl⟩ dX6_choose_2 (fun r2 s1 => ?_)
  refine rf_istore C (fun v3 => [(5, .int v3), (0, .ref ((gE Γ).2.1 (gId a1 0))), (1, .ref ((gE Γ).2.1 13)), (2, .int a3), (3, .int a4), (4, .int a5)]) dX6_choose_5 (by decide) (fun _ => rfl) (fun v3 => ?_)
  refine rf_sub [1, 2, 3, 4, 5, 0] rfl ?_
  refine rf_loo2 (fun _ _ => True) (fun _ s5 => s5) (fun v4 s5 => [(0, .ref ((gE Γ).2.1 (gId a1 0))), (1, .ref ((gE Γ).2.1 13)), (2, .int a3), (3, .int a4), (4, .int a5), (5, .int v4)]) (fun recrec6 hrec6 v4 s5 _ => ?_) n v3 s1 trivial
  refine rf_iload C dX6_choose_7 5 rfl ?_
  refine rf_aload_n C dX6_choose_9 rfl 0 rfl ?_
  refine rf_iload_n C dX6_choose_10 rfl 2 rfl ?_
  refine rf_callVi C (rmc := rmOf 0 0) [.int a3] (by decide) (mX4_end (gL Γ) a1 a3 s5 ha1) mfX4_end mvX4_end mlX6_64 rfl (oX4 ha1) rfl rfl rfl (Nat.le_of_ble_eq_true rfl) ⟨Nat.le_of_ble_eq_true rfl, Nat.le_of_ble_eq_true rfl⟩ dX6_choose_11 (fun r8 s7 => ?_)
  refine rf_icmp_ge C 41 dX6_choose_14 (by decide) (fun _ => ?_) (fun _ => ?_)
  · refine rf_bipush C (v := (-9 : Int32)) dX6_choose_41 rfl ?_
    exact rf_iret C dX6_choose_43
  refine rf_aload_n C dX6_choose_17 rfl 1 rfl ?_
  refine rf_iload C dX6_choose_18 5 rfl ?_
  refine rf_callVw C (rmc := rmOf 0 0) [.int v4] (by decide) (mX3_aheadOf (gL Γ) v4 s7) mfX3_aheadOf mvX3_aheadOf mlX6_67 rfl oX3 rfl rfl rfl (Nat.le_of_ble_eq_true rfl) ⟨Nat.le_of_ble_eq_true rfl, Nat.le_of_ble_eq_true rfl⟩ dX6_choose_20 (fun w10 s9 hw10 => ?_)
  refine rf_iload C dX6_choose_23 4 rfl ?_
  refine rf_iload_n C dX6_choose_25 rfl 3 rfl ?_
  refine rf_callVi C (rmc := rmOf 0 0) [.int a5, .int a4] (by decide) (mX10_has (gL Γ) w10 a5 a4 s9 hw10) mfX10_has mvX10_has mlX6_71 rfl (oX10 hw10) rfl rfl rfl (Nat.le_of_ble_eq_true rfl) ⟨Nat.le_of_ble_eq_true rfl, Nat.le_of_ble_eq_true rfl⟩ dX6_choose_26 (fun r12 s11 => ?_)
  refine rf_if_eq C 35 dX6_choose_29 (by decide) (fun _ => ?_) (fun _ => ?_)
  · refine rf_iinc C (fun v13 => [(5, .int v13), (0, .ref ((gE Γ).2.1 (gId a1 0))), (1, .ref ((gE Γ).2.1 13)), (2, .int a3), (3, .int a4), (4, .int a5)]) dX6_choose_35 5 rfl rfl (by decide) (fun _ => rfl) (fun v13 => ?_)
    refine rf_goto C 7 dX6_choose_38 (by decide) ?_
    exact rf_sub [1, 2, 3, 4, 5, 0] rfl (hrec6 v13 s11 trivial)
  refine rf_iload C dX6_choose_32 5 rfl ?_
  exact rf_iret C dX6_choose_34

def fX6_take (n : Nat) (a1 : Nat) (a2 : Int32) (s0 : PH) : Option (Unit × PH) :=
(wa 60 (s0.1 21 3) (lt (si s0 23 (s0.1 21 3).toNatClampNeg a2) fun (s1 : PH) =>
(lt (si s1 21 3 ((s1.1 21 3) + (nI 1))) fun (s2 : PH) =>
(bd (fX4_length a1 a2 s2) fun (r4 : Int32) (s3 : PH) =>
(lt (r4 - (nI 1)) fun (v5 : Int32) =>
(loo2 (fun (recrec8 : Int32 → PH → Option (Unit × PH)) (v6 : Int32) (s7 : PH) =>
(if v6 < 0 then
(some ((), s7))
else
(if (nI 301) ≤ (s7.1 21 2) then
(some ((), s7))
else
(bd (fX4_symbolAt a1 a2 v6 s7) fun (r10 : Int32) (s9 : PH) =>
(wa 301 (s7.1 21 2) (lt (si s9 22 (s7.1 21 2).toNatClampNeg r10) fun (s11 : PH) =>
(lt (si s11 21 2 ((s11.1 21 2) + (nI 1))) fun (s12 : PH) =>
(lt (v6 + (-1 : Int32)) fun (v13 : Int32) =>
(recrec8 v13 s12))))))))) n v5 s3))))))
set_option maxRecDepth 20000 in
set_option maxHeartbeats 2000000 in
theorem mX6_take (l : Launch) (n : Nat) (a1 : Nat) (a2 : Int32) (s0 : PH) (ha1 : a1 < 6) : Ctv 148 l yX6_take cX6_take 4 none (rmOf 1 22) (fun E => [.ref (E.2.1 21), .ref (E.2.1 (gId a1 0)), .int a2]) s0 (fX6_take n a1 a2 s0) := by
  refine Ctv.of (by decide) rfl (lv := fun E => [(0, .ref (E.2.1 21)), (1, .ref (E.2.1 (gId a1 0))), (2, .int a2)]) (fun _ => Nat.le_of_ble_eq_true rfl) (fun _ => rfl) (fun Γ hΓ _ C => ?_)
  subst hΓ
  unfold fX6_take
  refine rf_aload_n C dX6_take_0 rfl 0 rfl ?_
  refine rf_get C (v := .ref ((gE Γ).2.1 23)) cfX6 flX6_15 (by decide) oX6 rfl dX6_take_1 ?_
  refine rf_aload_n C dX6_take_4 rfl 0 rfl ?_
  refine rf_get C (v := .int (s0.1 21 3)) cfX6 flX6_22 (by decide) oX6 rfl dX6_take_5 ?_
  refine rf_iload_n C dX6_take_8 rfl 2 rfl ?_
  refine rf_iast C ar23 dX6_take_9 (fun s1 => ?_)
  refine rf_aload_n C dX6_take_10 rfl 0 rfl ?_
  refine rf_dup C dX6_take_11 rfl ?_
  refine rf_get C (v := .int (s1.1 21 3)) cfX6 flX6_22 (by decide) oX6 rfl dX6_take_12 ?_
  refine rf_iconst C (v := (nI 1)) dX6_take_15 rfl ?_
  refine rf_iadd C dX6_take_16 ?_
  refine rf_puti C cfX6 flX6_22 (by decide) rfl oX6 (fty := .int) rfl rfl rfl (fun _ _ _ _ => Nat.le_of_ble_eq_true rfl) (fun _ _ _ _ => rfl) dX6_take_17 (fun s2 => ?_)
  refine rf_aload_n C dX6_take_20 rfl 1 rfl ?_
  refine rf_iload_n C dX6_take_21 rfl 2 rfl ?_
  refine rf_callVi C (rmc := rmOf 0 0) [.int a2] (by decide) (mX4_length (gL Γ) a1 a2 s2 ha1) mfX4_length mvX4_length mlX6_77 rfl (oX4 ha1) rfl rfl rfl (Nat.le_of_ble_eq_true rfl) ⟨Nat.le_of_ble_eq_true rfl, Nat.le_of_ble_eq_true rfl⟩ dX6_take_22 (fun r4 s3 => ?_)
  refine rf_iconst C (v := (nI 1)) dX6_take_25 rfl ?_
  refine rf_isub C dX6_take_26 ?_
  refine rf_istore_n C (fun v5 => [(3, .int v5), (0, .ref ((gE Γ).2.1 21)), (1, .ref ((gE Γ).2.1 (gId a1 0))), (2, .int a2)]) dX6_take_27 rfl (by decide) (fun _ => rfl) (fun v5 => ?_)
  refine rf_sub [1, 2, 3, 0] rfl ?_
  refine rf_loo2 (fun _ _ => True) (fun _ s7 => s7) (fun v6 s7 => [(0, .ref ((gE Γ).2.1 21)), (1, .ref ((gE Γ).2.1 (gId a1 0))), (2, .int a2), (3, .int v6)]) (fun recrec8 hrec8 v6 s7 _ => ?_) n v5 s3 trivial
  refine rf_iload_n C dX6_take_28 rfl 3 rfl ?_
  refine rf_if_lt C 75 dX6_take_29 (by decide) (fun _ => ?_) (fun _ => ?_)
  · exact rf_vret C dX6_take_75
  refine rf_aload_n C dX6_take_32 rfl 0 rfl ?_
  refine rf_get C (v := .int (s7.1 21 2)) cfX6 flX6_18 (by decide) oX6 rfl dX6_take_33 ?_
  refine rf_aload_n C dX6_take_36 rfl 0 rfl ?_
  refine rf_get C (v := .ref ((gE Γ).2.1 22)) cfX6 flX6_9 (by decide) oX6 rfl dX6_take_37 ?_
  refine rf_alenI C (v := (nI 301)) ar22 rfl dX6_take_40 ?_
  refine rf_icmp_ge C 75 dX6_take_41 (by decide) (fun _ => ?_) (fun _ => ?_)
  · exact rf_vret C dX6_take_75
  refine rf_aload_n C dX6_take_44 rfl 0 rfl ?_
  refine rf_get C (v := .ref ((gE Γ).2.1 22)) cfX6 flX6_9 (by decide) oX6 rfl dX6_take_45 ?_
  refine rf_aload_n C dX6_take_48 rfl 0 rfl ?_
  refine rf_get C (v := .int (s7.1 21 2)) cfX6 flX6_18 (by decide) oX6 rfl dX6_take_49 ?_
  refine rf_aload_n C dX6_take_52 rfl 1 rfl ?_
  refine rf_iload_n C dX6_take_53 rfl 2 rfl ?_
  refine rf_iload_n C dX6_take_54 rfl 3 rfl ?_
  refine rf_callVi C (rmc := rmOf 0 0) [.int a2, .int v6] (by decide) (mX4_symbolAt (gL Γ) a1 a2 v6 s7 ha1) mfX4_symbolAt mvX4_symbolAt mlX6_80 rfl (oX4 ha1) rfl rfl rfl (Nat.le_of_ble_eq_true rfl) ⟨Nat.le_of_ble_eq_true rfl, Nat.le_of_ble_eq_true rfl⟩ dX6_take_55 (fun r10 s9 => ?_)
  refine rf_iast C ar22 dX6_take_58 (fun s11 => ?_)
  refine rf_aload_n C dX6_take_59 rfl 0 rfl ?_
  refine rf_dup C dX6_take_60 rfl ?_
  refine rf_get C (v := .int (s11.1 21 2)) cfX6 flX6_18 (by decide) oX6 rfl dX6_take_61 ?_
  refine rf_iconst C (v := (nI 1)) dX6_take_64 rfl ?_
  refine rf_iadd C dX6_take_65 ?_
  refine rf_puti C cfX6 flX6_18 (by decide) rfl oX6 (fty := .int) rfl rfl rfl (fun _ _ _ _ => Nat.le_of_ble_eq_true rfl) (fun _ _ _ _ => rfl) dX6_take_66 (fun s12 => ?_)
  refine rf_iinc C (fun v13 => [(3, .int v13), (0, .ref ((gE Γ).2.1 21)), (1, .ref ((gE Γ).2.1 (gId a1 0))), (2, .int a2)]) dX6_take_69 3 rfl rfl (by decide) (fun _ => rfl) (fun v13 => ?_)
  refine rf_goto C 28 dX6_take_72 (by decide) ?_
  exact rf_sub [1, 2, 3, 0] rfl (hrec8 v13 s12 trivial)

def fX6_run (n : Nat) (a1 : Nat) (s0 : PH) : Option (Int32 × PH) :=
(lt (nI 0) fun (v1 : Int32) =>
(lt (si s0 21 3 (nI 0)) fun (s2 : PH) =>
(bd (fX4_start a1 s2) fun (r4 : Int32) (s3 : PH) =>
(wa 301 (nI 0) (lt (si s3 22 (nI 0).toNatClampNeg ((nI 10) + r4)) fun (s5 : PH) =>
(lt (si s5 21 2 (nI 1)) fun (s6 : PH) =>
(lt (nI 0) fun (v7 : Int32) =>
(loo3 (fun (recrec11 : Int32 → Int32 → PH → Option (Int32 × PH)) (v8 : Int32) (v9 : Int32) (s10 : PH) =>
(jn (fun (s12 : PH) =>
(bd (fX8_size s12) fun (r15 : Int32) (s14 : PH) =>
(if v8 = r15 then
(some ((s14.1 21 3), s14))
else
(some (((-10 : Int32) - v8), s14))))) (fun (j13 : PH → Option (Int32 × PH)) =>
(if (nI 69) ≤ v9 then
(j13 s10)
else
(if (s10.1 21 2) ≤ 0 then
(j13 s10)
else
(lt (si s10 21 2 ((s10.1 21 2) - (nI 1))) fun (s16 : PH) =>
(ra 301 (s16.1 21 2) (s16.1 22) fun (v17 : Int32) =>
(lt v17 fun (v18 : Int32) =>
(bd (fX11_isLetter v18 s16) fun (r20 : Int32) (s19 : PH) =>
(jn (fun (v21 : Int32) (s22 : PH) =>
(lt (v9 + (nI 1)) fun (v24 : Int32) =>
(recrec11 v21 v24 s22))) (fun (j23 : Int32 → PH → Option (Int32 × PH)) =>
(if r20 = 0 then
(lt (v18 - (nI 10)) fun (v25 : Int32) =>
(bd (fX3_depthOf v25 s19) fun (r27 : Int32) (s26 : PH) =>
(lt r27 fun (v28 : Int32) =>
(bd (fX6_beginning n v8 v28 s26) fun (r30 : Int32) (s29 : PH) =>
(bd (fX6_choose n a1 v25 v28 r30 s29) fun (r32 : Int32) (s31 : PH) =>
(lt r32 fun (v33 : Int32) =>
(if v33 = (-9 : Int32) then
(some (((-10 : Int32) - v8), s31))
else
(if (s31.1 21 3) < (nI 60) then
(bd (fX6_take n a1 v33 s31) fun _ (s34 : PH) =>
(j23 v8 s34))
else
(some (((-10 : Int32) - v8), s31))))))))))
else
(bd (fX8_letterAt v8 s19) fun (r36 : Int32) (s35 : PH) =>
(if r36 = v18 then
(lt (v8 + (nI 1)) fun (v37 : Int32) =>
(j23 v37 s35))
else
(some (((-10 : Int32) - v8), s35)))))))))))))))) n v1 v7 s6))))))))
set_option maxRecDepth 20000 in
set_option maxHeartbeats 2000000 in
theorem mX6_run (l : Launch) (n : Nat) (a1 : Nat) (s0 : PH) (ha1 : a1 < 6) : Cti 148 l yX6_run cX6_run 10 (some .int) (rmOf 3 66) (fun E => [.ref (E.2.1 21), .ref (E.2.1 (gId a1 0)), .ref (E.2.1 13), .ref (E.2.1 1)]) s0 (fX6_run n a1 s0) := by
  refine Cti.of (by decide) rfl (lv := fun E => [(0, .ref (E.2.1 21)), (1, .ref (E.2.1 (gId a1 0))), (2, .ref (E.2.1 13)), (3, .ref (E.2.1 1))]) (fun _ => Nat.le_of_ble_eq_true rfl) (fun _ => rfl) (fun Γ hΓ _ C => ?_)
  subst hΓ
  unfold fX6_run
  refine rf_iconst C (v := (nI 0)) dX6_run_0 rfl ?_
  refine rf_istore C (fun v1 => [(4, .int v1), (0, .ref ((gE Γ).2.1 21)), (1, .ref ((gE Γ).2.1 (gId a1 0))), (2, .ref ((gE Γ).2.1 13)), (3, .ref ((gE Γ).2.1 1))]) dX6_run_1 (by decide) (fun _ => rfl) (fun v1 => ?_)
  refine rf_aload_n C dX6_run_3 rfl 1 rfl ?_
  refine rf_iconst C (v := (nI 0)) dX6_run_4 rfl ?_
  refine rf_puti C cfX6 flX6_22 (by decide) rfl oX6 (fty := .int) rfl rfl rfl (fun _ _ _ _ => Nat.le_of_ble_eq_true rfl) (fun _ _ _ _ => rfl) dX6_run_5 (fun s2 => ?_)
  refine rf_aload_n C dX6_run_8 rfl 1 rfl ?_
  refine rf_get C (v := .ref ((gE Γ).2.1 22)) cfX6 flX6_9 (by decide) oX6 rfl dX6_run_9 ?_
  refine rf_iconst C (v := (nI 0)) dX6_run_12 rfl ?_
  refine rf_bipush C (v := (nI 10)) dX6_run_13 rfl ?_
  refine rf_aload_n C dX6_run_15 rfl 2 rfl ?_
  refine rf_callVi C (rmc := rmOf 0 0) [] (by decide) (mX4_start (gL Γ) a1 s2 ha1) mfX4_start mvX4_start mlX6_25 rfl (oX4 ha1) rfl rfl rfl (Nat.le_of_ble_eq_true rfl) ⟨Nat.le_of_ble_eq_true rfl, Nat.le_of_ble_eq_true rfl⟩ dX6_run_16 (fun r4 s3 => ?_)
  refine rf_iadd C dX6_run_19 ?_
  refine rf_iast C ar22 dX6_run_20 (fun s5 => ?_)
  refine rf_aload_n C dX6_run_21 rfl 1 rfl ?_
  refine rf_iconst C (v := (nI 1)) dX6_run_22 rfl ?_
  refine rf_puti C cfX6 flX6_18 (by decide) rfl oX6 (fty := .int) rfl rfl rfl (fun _ _ _ _ => Nat.le_of_ble_eq_true rfl) (fun _ _ _ _ => rfl) dX6_run_23 (fun s6 => ?_)
  refine rf_iconst C (v := (nI 0)) dX6_run_26 rfl ?_
  refine rf_istore C (fun v7 => [(5, .int v7), (4, .int v1), (0, .ref ((gE Γ).2.1 21)), (1, .ref ((gE Γ).2.1 (gId a1 0))), (2, .ref ((gE Γ).2.1 13)), (3, .ref ((gE Γ).2.1 1))]) dX6_run_27 (by decide) (fun _ => rfl) (fun v7 => ?_)
  refine rf_sub [2, 3, 4, 5, 1, 0] rfl ?_
  refine rf_loo3 (fun _ _ _ => True) (fun _ _ s10 => s10) (fun v8 v9 s10 => [(0, .ref ((gE Γ).2.1 21)), (1, .ref ((gE Γ).2.1 (gId a1 0))), (2, .ref ((gE Γ).2.1 13)), (3, .ref ((gE Γ).2.1 1)), (4, .int v8), (5, .int v9)]) (fun recrec11 hrec11 v8 v9 s10 _ => ?_) n v1 v7 s6 trivial
  refine rf_iload C dX6_run_29 5 rfl ?_
  refine rf_bipush C (v := (nI 69)) dX6_run_31 rfl ?_
  refine rf_jn1 (fun _ => True) (fun  s12 => s12) (fun s12 => [(0, .ref ((gE Γ).2.1 21)), (3, .ref ((gE Γ).2.1 1)), (4, .int v8)]) (fun s12 => []) 164 (fun s12 _ => ?_) (fun j13 hj13 => ?_)
  · refine rf_iload C dX6_run_164 2 rfl ?_
    refine rf_aload_n C dX6_run_166 rfl 1 rfl ?_
    refine rf_callVi C (rmc := rmOf 0 0) [] (by decide) (mX8_size (gL Γ) s12) mfX8_size mvX8_size mlX6_58 rfl oX8 rfl rfl rfl (Nat.le_of_ble_eq_true rfl) ⟨Nat.le_of_ble_eq_true rfl, Nat.le_of_ble_eq_true rfl⟩ dX6_run_167 (fun r15 s14 => ?_)
    refine rf_icmp_ne C 180 dX6_run_170 (by decide) (fun _ => ?_) (fun _ => ?_)
    · refine rf_bipush C (v := (-10 : Int32)) dX6_run_180 rfl ?_
      refine rf_iload C dX6_run_182 2 rfl ?_
      refine rf_isub C dX6_run_184 ?_
      exact rf_iret C dX6_run_185
    refine rf_aload_n C dX6_run_173 rfl 0 rfl ?_
    refine rf_get C (v := .int (s14.1 21 3)) cfX6 flX6_22 (by decide) oX6 rfl dX6_run_174 ?_
    refine rf_goto C 185 dX6_run_177 (by decide) ?_
    exact rf_iret C dX6_run_185
  refine rf_icmp_ge C 164 dX6_run_33 (by decide) (fun _ => ?_) (fun _ => ?_)
  · exact rf_sub [0, 3, 4] rfl (hj13 s10 trivial)
  refine rf_aload_n C dX6_run_36 rfl 0 rfl ?_
  refine rf_get C (v := .int (s10.1 21 2)) cfX6 flX6_18 (by decide) oX6 rfl dX6_run_37 ?_
  refine rf_if_le C 164 dX6_run_40 (by decide) (fun _ => ?_) (fun _ => ?_)
  · exact rf_sub [0, 3, 4] rfl (hj13 s10 trivial)
  refine rf_aload_n C dX6_run_43 rfl 0 rfl ?_
  refine rf_dup C dX6_run_44 rfl ?_
  refine rf_get C (v := .int (s10.1 21 2)) cfX6 flX6_18 (by decide) oX6 rfl dX6_run_45 ?_
  refine rf_iconst C (v := (nI 1)) dX6_run_48 rfl ?_
  refine rf_isub C dX6_run_49 ?_
  refine rf_puti C cfX6 flX6_18 (by decide) rfl oX6 (fty := .int) rfl rfl rfl (fun _ _ _ _ => Nat.le_of_ble_eq_true rfl) (fun _ _ _ _ => rfl) dX6_run_50 (fun s16 => ?_)
  refine rf_aload_n C dX6_run_53 rfl 0 rfl ?_
  refine rf_get C (v := .ref ((gE Γ).2.1 22)) cfX6 flX6_9 (by decide) oX6 rfl dX6_run_54 ?_
  refine rf_aload_n C dX6_run_57 rfl 0 rfl ?_
  refine rf_get C (v := .int (s16.1 21 2)) cfX6 flX6_18 (by decide) oX6 rfl dX6_run_58 ?_
  refine rf_iald C ar22 dX6_run_61 (fun v17 => ?_)
  refine rf_istore C (fun v18 => [(6, .int v18), (0, .ref ((gE Γ).2.1 21)), (1, .ref ((gE Γ).2.1 (gId a1 0))), (2, .ref ((gE Γ).2.1 13)), (3, .ref ((gE Γ).2.1 1)), (4, .int v8), (5, .int v9)]) dX6_run_62 (by decide) (fun _ => rfl) (fun v18 => ?_)
  refine rf_iload C dX6_run_64 0 rfl ?_
  refine rf_callSNi C (rmc := rmOf 0 0) [.int v18] (by decide) (mX11_isLetter (gL Γ) v18 s16) mfX11_isLetter msX11_isLetter (by decide) rfl rfl rfl (Nat.le_of_ble_eq_true rfl) ⟨Nat.le_of_ble_eq_true rfl, Nat.le_of_ble_eq_true rfl⟩ dX6_run_66 (fun r20 s19 => ?_)
  refine rf_jn2 (fun _ _ => True) (fun _ s22 => s22) (fun v21 s22 => [(0, .ref ((gE Γ).2.1 21)), (1, .ref ((gE Γ).2.1 (gId a1 0))), (2, .ref ((gE Γ).2.1 13)), (3, .ref ((gE Γ).2.1 1)), (4, .int v21), (5, .int v9)]) (fun v21 s22 => []) 158 (fun v21 s22 _ => ?_) (fun j23 hj23 => ?_)
  · refine rf_iinc C (fun v24 => [(5, .int v24), (0, .ref ((gE Γ).2.1 21)), (1, .ref ((gE Γ).2.1 (gId a1 0))), (2, .ref ((gE Γ).2.1 13)), (3, .ref ((gE Γ).2.1 1)), (4, .int v21)]) dX6_run_158 5 rfl rfl (by decide) (fun _ => rfl) (fun v24 => ?_)
    refine rf_goto C 29 dX6_run_161 (by decide) ?_
    exact rf_sub [1, 2, 3, 4, 5, 0] rfl (hrec11 v21 v24 s22 trivial)
  refine rf_if_eq C 95 dX6_run_69 (by decide) (fun _ => ?_) (fun _ => ?_)
  · refine rf_iload C dX6_run_95 0 rfl ?_
    refine rf_bipush C (v := (nI 10)) dX6_run_97 rfl ?_
    refine rf_isub C dX6_run_99 ?_
    refine rf_istore C (fun v25 => [(7, .int v25), (6, .int v18), (0, .ref ((gE Γ).2.1 21)), (1, .ref ((gE Γ).2.1 (gId a1 0))), (2, .ref ((gE Γ).2.1 13)), (3, .ref ((gE Γ).2.1 1)), (4, .int v8), (5, .int v9)]) dX6_run_100 (by decide) (fun _ => rfl) (fun v25 => ?_)
    refine rf_aload_n C dX6_run_102 rfl 4 rfl ?_
    refine rf_iload C dX6_run_103 0 rfl ?_
    refine rf_callVi C (rmc := rmOf 0 0) [.int v25] (by decide) (mX3_depthOf (gL Γ) v25 s19) mfX3_depthOf mvX3_depthOf mlX6_41 rfl oX3 rfl rfl rfl (Nat.le_of_ble_eq_true rfl) ⟨Nat.le_of_ble_eq_true rfl, Nat.le_of_ble_eq_true rfl⟩ dX6_run_105 (fun r27 s26 => ?_)
    refine rf_istore C (fun v28 => [(8, .int v28), (7, .int v25), (6, .int v18), (0, .ref ((gE Γ).2.1 21)), (1, .ref ((gE Γ).2.1 (gId a1 0))), (2, .ref ((gE Γ).2.1 13)), (3, .ref ((gE Γ).2.1 1)), (4, .int v8), (5, .int v9)]) dX6_run_108 (by decide) (fun _ => rfl) (fun v28 => ?_)
    refine rf_aload_n C dX6_run_110 rfl 4 rfl ?_
    refine rf_aload_n C dX6_run_111 rfl 5 rfl ?_
    refine rf_iload C dX6_run_112 1 rfl ?_
    refine rf_iload C dX6_run_114 0 rfl ?_
    refine rf_aload_n C dX6_run_116 rfl 6 rfl ?_
    refine rf_iload C dX6_run_117 7 rfl ?_
    refine rf_iload C dX6_run_119 0 rfl ?_
    refine rf_callSi C (rmc := rmOf 2 42) [.ref ((gE Γ).2.1 1), .int v8, .int v28] (by decide) (mX6_beginning (gL Γ) n v8 v28 s26) mfX6_beginning msX6_beginning mlX6_46 rfl rfl rfl (Nat.le_of_ble_eq_true rfl) ⟨Nat.le_of_ble_eq_true rfl, Nat.le_of_ble_eq_true rfl⟩ dX6_run_121 (fun r30 s29 => ?_)
    refine rf_callSi C (rmc := rmOf 1 23) [.ref ((gE Γ).2.1 (gId a1 0)), .ref ((gE Γ).2.1 13), .int v25, .int v28, .int r30] (by decide) (mX6_choose (gL Γ) n a1 v25 v28 r30 s29 ha1) mfX6_choose msX6_choose mlX6_50 rfl rfl rfl (Nat.le_of_ble_eq_true rfl) ⟨Nat.le_of_ble_eq_true rfl, Nat.le_of_ble_eq_true rfl⟩ dX6_run_124 (fun r32 s31 => ?_)
    refine rf_istore C (fun v33 => [(9, .int v33), (8, .int v28), (7, .int v25), (6, .int v18), (0, .ref ((gE Γ).2.1 21)), (1, .ref ((gE Γ).2.1 (gId a1 0))), (2, .ref ((gE Γ).2.1 13)), (3, .ref ((gE Γ).2.1 1)), (4, .int v8), (5, .int v9)]) dX6_run_127 (by decide) (fun _ => rfl) (fun v33 => ?_)
    refine rf_iload C dX6_run_129 0 rfl ?_
    refine rf_bipush C (v := (-9 : Int32)) dX6_run_131 rfl ?_
    refine rf_icmp_eq C 145 dX6_run_133 (by decide) (fun _ => ?_) (fun _ => ?_)
    · refine rf_bipush C (v := (-10 : Int32)) dX6_run_145 rfl ?_
      refine rf_iload C dX6_run_147 8 rfl ?_
      refine rf_isub C dX6_run_149 ?_
      exact rf_iret C dX6_run_150
    refine rf_aload_n C dX6_run_136 rfl 4 rfl ?_
    refine rf_get C (v := .int (s31.1 21 3)) cfX6 flX6_22 (by decide) oX6 rfl dX6_run_137 ?_
    refine rf_bipush C (v := (nI 60)) dX6_run_140 rfl ?_
    refine rf_icmp_lt C 151 dX6_run_142 (by decide) (fun _ => ?_) (fun _ => ?_)
    · refine rf_aload_n C dX6_run_151 rfl 4 rfl ?_
      refine rf_aload_n C dX6_run_152 rfl 5 rfl ?_
      refine rf_iload C dX6_run_153 0 rfl ?_
      refine rf_callVv C (rmc := rmOf 1 22) [.ref ((gE Γ).2.1 (gId a1 0)), .int v33] (by decide) (mX6_take (gL Γ) n a1 v33 s31 ha1) mfX6_take mvX6_take mlX6_54 rfl oX6 rfl rfl rfl (Nat.le_of_ble_eq_true rfl) ⟨Nat.le_of_ble_eq_true rfl, Nat.le_of_ble_eq_true rfl⟩ dX6_run_155 (fun s34 => ?_)
      exact rf_sub [4, 5, 6, 7, 8, 9] rfl (hj23 v8 s34 trivial)
    refine rf_bipush C (v := (-10 : Int32)) dX6_run_145 rfl ?_
    refine rf_iload C dX6_run_147 8 rfl ?_
    refine rf_isub C dX6_run_149 ?_
    exact rf_iret C dX6_run_150
  refine rf_aload_n C dX6_run_72 rfl 4 rfl ?_
  refine rf_iload C dX6_run_73 5 rfl ?_
  refine rf_callVi C (rmc := rmOf 1 21) [.int v8] (by decide) (mX8_letterAt (gL Γ) v8 s19) mfX8_letterAt mvX8_letterAt mlX6_35 rfl oX8 rfl rfl rfl (Nat.le_of_ble_eq_true rfl) ⟨Nat.le_of_ble_eq_true rfl, Nat.le_of_ble_eq_true rfl⟩ dX6_run_75 (fun r36 s35 => ?_)
  refine rf_iload C dX6_run_78 0 rfl ?_
  refine rf_icmp_eq C 89 dX6_run_80 (by decide) (fun _ => ?_) (fun _ => ?_)
  · refine rf_iinc C (fun v37 => [(4, .int v37), (6, .int v18), (0, .ref ((gE Γ).2.1 21)), (1, .ref ((gE Γ).2.1 (gId a1 0))), (2, .ref ((gE Γ).2.1 13)), (3, .ref ((gE Γ).2.1 1)), (5, .int v9)]) dX6_run_89 5 rfl rfl (by decide) (fun _ => rfl) (fun v37 => ?_)
    refine rf_goto C 158 dX6_run_92 (by decide) ?_
    exact rf_sub [2, 3, 4, 5, 0, 6] rfl (hj23 v37 s35 trivial)
  refine rf_bipush C (v := (-10 : Int32)) dX6_run_83 rfl ?_
  refine rf_iload C dX6_run_85 5 rfl ?_
  refine rf_isub C dX6_run_87 ?_
  exact rf_iret C dX6_run_88

def fX11_parse (n : Nat) (s0 : PH) : Option (Int32 × PH) :=
(bd (fX6_forget s0) fun _ (s1 : PH) =>
(bd (fX11_deepest n (nI 0) s1) fun (r3 : Int32) (s2 : PH) =>
(if r3 = (-9 : Int32) then
(some ((-2 : Int32), s2))
else
(bd (fX9_recursesReachably s2) fun (r5 : Int32) (s4 : PH) =>
(if r5 = 0 then
(bd (fX8_inputFault n s4) fun (r7 : Int32) (s6 : PH) =>
(lt r7 fun (v8 : Int32) =>
(if v8 = (-9 : Int32) then
(lt (s6.2.2 0 8) fun (g9 : Nat) =>
(bd (fX6_run n g9 s6) fun (r11 : Int32) (s10 : PH) =>
(some (r11, s10))))
else
(some (((-100 : Int32) - v8), s6)))))
else
(some ((-2 : Int32), s4)))))))
set_option maxRecDepth 20000 in
set_option maxHeartbeats 2000000 in
theorem mX11_parse (l : Launch) (n : Nat) (s0 : PH) : Cti 148 l yX11_parse cX11_parse 2 (some .int) (rmOf 4 95) (fun E => [.ref (E.2.1 0)]) s0 (fX11_parse n s0) := by
  refine Cti.of (by decide) rfl (lv := fun E => [(0, .ref (E.2.1 0))]) (fun _ => Nat.le_of_ble_eq_true rfl) (fun _ => rfl) (fun Γ hΓ _ C => ?_)
  subst hΓ
  unfold fX11_parse
  refine rf_aload_n C dX11_parse_0 rfl 0 rfl ?_
  refine rf_get C (v := .ref ((gE Γ).2.1 21)) cfX11 flX11_47 (by decide) oX11 rfl dX11_parse_1 ?_
  refine rf_callVv C (rmc := rmOf 0 0) [] (by decide) (mX6_forget (gL Γ) s0) mfX6_forget mvX6_forget mlX11_200 rfl oX6 rfl rfl rfl (Nat.le_of_ble_eq_true rfl) ⟨Nat.le_of_ble_eq_true rfl, Nat.le_of_ble_eq_true rfl⟩ dX11_parse_4 (fun s1 => ?_)
  refine rf_aload_n C dX11_parse_7 rfl 0 rfl ?_
  refine rf_iconst C (v := (nI 0)) dX11_parse_8 rfl ?_
  refine rf_callVi C (rmc := rmOf 2 42) [.int (nI 0)] (by decide) (mX11_deepest (gL Γ) n (nI 0) s1) mfX11_deepest mvX11_deepest mlX11_201 rfl oX11 rfl rfl rfl (Nat.le_of_ble_eq_true rfl) ⟨Nat.le_of_ble_eq_true rfl, Nat.le_of_ble_eq_true rfl⟩ dX11_parse_9 (fun r3 s2 => ?_)
  refine rf_bipush C (v := (-9 : Int32)) dX11_parse_12 rfl ?_
  refine rf_icmp_eq C 27 dX11_parse_14 (by decide) (fun _ => ?_) (fun _ => ?_)
  · refine rf_bipush C (v := (-2 : Int32)) dX11_parse_27 rfl ?_
    exact rf_iret C dX11_parse_29
  refine rf_aload_n C dX11_parse_17 rfl 0 rfl ?_
  refine rf_get C (v := .ref ((gE Γ).2.1 7)) cfX11 flX11_33 (by decide) oX11 rfl dX11_parse_18 ?_
  refine rf_callVi C (rmc := rmOf 0 0) [] (by decide) (mX9_recursesReachably (gL Γ) s2) mfX9_recursesReachably mvX9_recursesReachably mlX11_205 rfl oX9 rfl rfl rfl (Nat.le_of_ble_eq_true rfl) ⟨Nat.le_of_ble_eq_true rfl, Nat.le_of_ble_eq_true rfl⟩ dX11_parse_21 (fun r5 s4 => ?_)
  refine rf_if_eq C 30 dX11_parse_24 (by decide) (fun _ => ?_) (fun _ => ?_)
  · refine rf_aload_n C dX11_parse_30 rfl 0 rfl ?_
    refine rf_get C (v := .ref ((gE Γ).2.1 1)) cfX11 flX11_10 (by decide) oX11 rfl dX11_parse_31 ?_
    refine rf_callVi C (rmc := rmOf 0 0) [] (by decide) (mX8_inputFault (gL Γ) n s4) mfX8_inputFault mvX8_inputFault mlX11_209 rfl oX8 rfl rfl rfl (Nat.le_of_ble_eq_true rfl) ⟨Nat.le_of_ble_eq_true rfl, Nat.le_of_ble_eq_true rfl⟩ dX11_parse_34 (fun r7 s6 => ?_)
    refine rf_istore_n C (fun v8 => [(1, .int v8), (0, .ref ((gE Γ).2.1 0))]) dX11_parse_37 rfl (by decide) (fun _ => rfl) (fun v8 => ?_)
    refine rf_iload_n C dX11_parse_38 rfl 0 rfl ?_
    refine rf_bipush C (v := (-9 : Int32)) dX11_parse_39 rfl ?_
    refine rf_icmp_eq C 49 dX11_parse_41 (by decide) (fun _ => ?_) (fun _ => ?_)
    · refine rf_aload_n C dX11_parse_49 rfl 1 rfl ?_
      refine rf_get C (v := .ref ((gE Γ).2.1 21)) cfX11 flX11_47 (by decide) oX11 rfl dX11_parse_50 ?_
      refine rf_aload_n C dX11_parse_53 rfl 1 rfl ?_
      refine rf_getG C cfX11 flX11_68 (by decide) oX11 (fun _ _ _ _ => rfl) dX11_parse_54 (fun g9 hg9 => ?_)
      refine rf_aload_n C dX11_parse_57 rfl 1 rfl ?_
      refine rf_get C (v := .ref ((gE Γ).2.1 13)) cfX11 flX11_40 (by decide) oX11 rfl dX11_parse_58 ?_
      refine rf_aload_n C dX11_parse_61 rfl 1 rfl ?_
      refine rf_get C (v := .ref ((gE Γ).2.1 1)) cfX11 flX11_10 (by decide) oX11 rfl dX11_parse_62 ?_
      refine rf_callVi C (rmc := rmOf 3 66) [.ref ((gE Γ).2.1 (gId g9 0)), .ref ((gE Γ).2.1 13), .ref ((gE Γ).2.1 1)] (by decide) (mX6_run (gL Γ) n g9 s6 hg9) mfX6_run mvX6_run mlX11_212 rfl oX6 rfl rfl rfl (Nat.le_of_ble_eq_true rfl) ⟨Nat.le_of_ble_eq_true rfl, Nat.le_of_ble_eq_true rfl⟩ dX11_parse_65 (fun r11 s10 => ?_)
      exact rf_iret C dX11_parse_68
    refine rf_bipush C (v := (-100 : Int32)) dX11_parse_44 rfl ?_
    refine rf_iload_n C dX11_parse_46 rfl 0 rfl ?_
    refine rf_isub C dX11_parse_47 ?_
    exact rf_iret C dX11_parse_48
  refine rf_bipush C (v := (-2 : Int32)) dX11_parse_27 rfl ?_
  exact rf_iret C dX11_parse_29

def fX6_count (s0 : PH) : Option (Int32 × PH) :=
(some ((s0.1 21 3), s0))
set_option maxRecDepth 20000 in
set_option maxHeartbeats 2000000 in
theorem mX6_count (l : Launch) (s0 : PH) : Cti 148 l yX6_count cX6_count 1 (some .int) (rmOf 0 0) (fun E => [.ref (E.2.1 21)]) s0 (fX6_count s0) := by
  refine Cti.of (by decide) rfl (lv := fun E => [(0, .ref (E.2.1 21))]) (fun _ => Nat.le_of_ble_eq_true rfl) (fun _ => rfl) (fun Γ hΓ _ C => ?_)
  subst hΓ
  unfold fX6_count
  refine rf_aload_n C dX6_count_0 rfl 0 rfl ?_
  refine rf_get C (v := .int (s0.1 21 3)) cfX6 flX6_22 (by decide) oX6 rfl dX6_count_1 ?_
  exact rf_iret C dX6_count_4

def fX6_choice (a1 : Int32) (s0 : PH) : Option (Int32 × PH) :=
(ra 60 a1 (s0.1 23) fun (v1 : Int32) =>
(some (v1, s0)))
set_option maxRecDepth 20000 in
set_option maxHeartbeats 2000000 in
theorem mX6_choice (l : Launch) (a1 : Int32) (s0 : PH) : Cti 148 l yX6_choice cX6_choice 2 (some .int) (rmOf 0 0) (fun E => [.ref (E.2.1 21), .int a1]) s0 (fX6_choice a1 s0) := by
  refine Cti.of (by decide) rfl (lv := fun E => [(0, .ref (E.2.1 21)), (1, .int a1)]) (fun _ => Nat.le_of_ble_eq_true rfl) (fun _ => rfl) (fun Γ hΓ _ C => ?_)
  subst hΓ
  unfold fX6_choice
  refine rf_aload_n C dX6_choice_0 rfl 0 rfl ?_
  refine rf_get C (v := .ref ((gE Γ).2.1 23)) cfX6 flX6_15 (by decide) oX6 rfl dX6_choice_1 ?_
  refine rf_iload_n C dX6_choice_4 rfl 1 rfl ?_
  refine rf_iald C ar23 dX6_choice_5 (fun v1 => ?_)
  exact rf_iret C dX6_choice_6

def fX11_chosen (a1 : Int32) (s0 : PH) : Option (Int32 × PH) :=
(if 0 ≤ a1 then
(bd (fX6_count s0) fun (r2 : Int32) (s1 : PH) =>
(if r2 ≤ a1 then
(some ((-9 : Int32), s1))
else
(bd (fX6_choice a1 s1) fun (r4 : Int32) (s3 : PH) =>
(some (r4, s3)))))
else
(some ((-1 : Int32), s0)))
set_option maxRecDepth 20000 in
set_option maxHeartbeats 2000000 in
theorem mX11_chosen (l : Launch) (a1 : Int32) (s0 : PH) : Cti 148 l yX11_chosen cX11_chosen 2 (some .int) (rmOf 1 21) (fun E => [.ref (E.2.1 0), .int a1]) s0 (fX11_chosen a1 s0) := by
  refine Cti.of (by decide) rfl (lv := fun E => [(0, .ref (E.2.1 0)), (1, .int a1)]) (fun _ => Nat.le_of_ble_eq_true rfl) (fun _ => rfl) (fun Γ hΓ _ C => ?_)
  subst hΓ
  unfold fX11_chosen
  refine rf_iload_n C dX11_chosen_0 rfl 1 rfl ?_
  refine rf_if_ge C 6 dX11_chosen_1 (by decide) (fun _ => ?_) (fun _ => ?_)
  · refine rf_iload_n C dX11_chosen_6 rfl 1 rfl ?_
    refine rf_aload_n C dX11_chosen_7 rfl 0 rfl ?_
    refine rf_get C (v := .ref ((gE Γ).2.1 21)) cfX11 flX11_47 (by decide) oX11 rfl dX11_chosen_8 ?_
    refine rf_callVi C (rmc := rmOf 0 0) [] (by decide) (mX6_count (gL Γ) s0) mfX6_count mvX6_count mlX11_216 rfl oX6 rfl rfl rfl (Nat.le_of_ble_eq_true rfl) ⟨Nat.le_of_ble_eq_true rfl, Nat.le_of_ble_eq_true rfl⟩ dX11_chosen_11 (fun r2 s1 => ?_)
    refine rf_icmp_ge C 28 dX11_chosen_14 (by decide) (fun _ => ?_) (fun _ => ?_)
    · refine rf_bipush C (v := (-9 : Int32)) dX11_chosen_28 rfl ?_
      exact rf_iret C dX11_chosen_30
    refine rf_aload_n C dX11_chosen_17 rfl 0 rfl ?_
    refine rf_get C (v := .ref ((gE Γ).2.1 21)) cfX11 flX11_47 (by decide) oX11 rfl dX11_chosen_18 ?_
    refine rf_iload_n C dX11_chosen_21 rfl 1 rfl ?_
    refine rf_callVi C (rmc := rmOf 0 0) [.int a1] (by decide) (mX6_choice (gL Γ) a1 s1) mfX6_choice mvX6_choice mlX11_217 rfl oX6 rfl rfl rfl (Nat.le_of_ble_eq_true rfl) ⟨Nat.le_of_ble_eq_true rfl, Nat.le_of_ble_eq_true rfl⟩ dX11_chosen_22 (fun r4 s3 => ?_)
    refine rf_goto C 30 dX11_chosen_25 (by decide) ?_
    exact rf_iret C dX11_chosen_30
  refine rf_iconst C (v := (-1 : Int32)) dX11_chosen_4 rfl ?_
  exact rf_iret C dX11_chosen_5

def fX9_cyclesReachably (s0 : PH) : Option (Int32 × PH) :=
(if ((s0.1 7 9) &&& (s0.1 7 7)) = 0 then
(some ((nI 0), s0))
else
(some ((nI 1), s0)))
set_option maxRecDepth 20000 in
set_option maxHeartbeats 2000000 in
theorem mX9_cyclesReachably (l : Launch) (s0 : PH) : Cti 148 l yX9_cyclesReachably cX9_cyclesReachably 1 (some .boolean) (rmOf 0 0) (fun E => [.ref (E.2.1 7)]) s0 (fX9_cyclesReachably s0) := by
  refine Cti.of (by decide) rfl (lv := fun E => [(0, .ref (E.2.1 7))]) (fun _ => Nat.le_of_ble_eq_true rfl) (fun _ => rfl) (fun Γ hΓ _ C => ?_)
  subst hΓ
  unfold fX9_cyclesReachably
  refine rf_aload_n C dX9_cyclesReachably_0 rfl 0 rfl ?_
  refine rf_get C (v := .int (s0.1 7 9)) cfX9 flX9_40 (by decide) oX9 rfl dX9_cyclesReachably_1 ?_
  refine rf_aload_n C dX9_cyclesReachably_4 rfl 0 rfl ?_
  refine rf_get C (v := .int (s0.1 7 7)) cfX9 flX9_34 (by decide) oX9 rfl dX9_cyclesReachably_5 ?_
  refine rf_iand C dX9_cyclesReachably_8 ?_
  refine rf_if_eq C 16 dX9_cyclesReachably_9 (by decide) (fun _ => ?_) (fun _ => ?_)
  · refine rf_iconst C (v := (nI 0)) dX9_cyclesReachably_16 rfl ?_
    exact rf_zret C rfl dX9_cyclesReachably_17
  refine rf_iconst C (v := (nI 1)) dX9_cyclesReachably_12 rfl ?_
  refine rf_goto C 17 dX9_cyclesReachably_13 (by decide) ?_
  exact rf_zret C rfl dX9_cyclesReachably_17

def fX1_count (t : Nat) (a1 : Int32) (a2 : Int32) (a3 : Int32) (s0 : PH) : Option (Int32 × PH) :=
(ra 81 ((a2 * (nI 9)) + a3) (s0.1 (cId t 2)) fun (v1 : Int32) =>
(ra (tLen t) (v1 + a1) (s0.1 (cId t 3)) fun (v2 : Int32) =>
(some (v2, s0))))
set_option maxRecDepth 20000 in
set_option maxHeartbeats 2000000 in
theorem mX1_count (l : Launch) (t : Nat) (a1 : Int32) (a2 : Int32) (a3 : Int32) (s0 : PH) (ht : t < 2) : Cti 148 l yX1_count cX1_count 4 (some .int) (rmOf 0 0) (fun E => [.ref (E.2.1 (cId t 0)), .int a1, .int a2, .int a3]) s0 (fX1_count t a1 a2 a3 s0) := by
  refine Cti.of (by decide) rfl (lv := fun E => [(0, .ref (E.2.1 (cId t 0))), (1, .int a1), (2, .int a2), (3, .int a3)]) (fun _ => Nat.le_of_ble_eq_true rfl) (fun _ => rfl) (fun Γ hΓ _ C => ?_)
  subst hΓ
  unfold fX1_count
  refine rf_aload_n C dX1_count_0 rfl 0 rfl ?_
  refine rf_get C (v := .ref ((gE Γ).2.1 (cId t 3))) cfX1 flX1_27 (by decide) (oX1 ht) rfl dX1_count_1 ?_
  refine rf_aload_n C dX1_count_4 rfl 0 rfl ?_
  refine rf_get C (v := .ref ((gE Γ).2.1 (cId t 2))) cfX1 flX1_15 (by decide) (oX1 ht) rfl dX1_count_5 ?_
  refine rf_iload_n C dX1_count_8 rfl 2 rfl ?_
  refine rf_bipush C (v := (nI 9)) dX1_count_9 rfl ?_
  refine rf_imul C dX1_count_11 ?_
  refine rf_iload_n C dX1_count_12 rfl 3 rfl ?_
  refine rf_iadd C dX1_count_13 ?_
  refine rf_iald C (arC2 ht) dX1_count_14 (fun v1 => ?_)
  refine rf_iload_n C dX1_count_15 rfl 1 rfl ?_
  refine rf_iadd C dX1_count_16 ?_
  refine rf_iald C (arC3 ht) dX1_count_17 (fun v2 => ?_)
  exact rf_iret C dX1_count_18

def fX9_ordered (s0 : PH) : Option (Int32 × PH) :=
(some ((s0.1 7 5), s0))
set_option maxRecDepth 20000 in
set_option maxHeartbeats 2000000 in
theorem mX9_ordered (l : Launch) (s0 : PH) : Cti 148 l yX9_ordered cX9_ordered 1 (some .int) (rmOf 0 0) (fun E => [.ref (E.2.1 7)]) s0 (fX9_ordered s0) := by
  refine Cti.of (by decide) rfl (lv := fun E => [(0, .ref (E.2.1 7))]) (fun _ => Nat.le_of_ble_eq_true rfl) (fun _ => rfl) (fun Γ hΓ _ C => ?_)
  subst hΓ
  unfold fX9_ordered
  refine rf_aload_n C dX9_ordered_0 rfl 0 rfl ?_
  refine rf_get C (v := .int (s0.1 7 5)) cfX9 flX9_27 (by decide) oX9 rfl dX9_ordered_1 ?_
  exact rf_iret C dX9_ordered_4

def fX9_inOrder (a1 : Int32) (s0 : PH) : Option (Int32 × PH) :=
(ra 6 a1 (s0.1 12) fun (v1 : Int32) =>
(some (v1, s0)))
set_option maxRecDepth 20000 in
set_option maxHeartbeats 2000000 in
theorem mX9_inOrder (l : Launch) (a1 : Int32) (s0 : PH) : Cti 148 l yX9_inOrder cX9_inOrder 2 (some .int) (rmOf 0 0) (fun E => [.ref (E.2.1 7), .int a1]) s0 (fX9_inOrder a1 s0) := by
  refine Cti.of (by decide) rfl (lv := fun E => [(0, .ref (E.2.1 7)), (1, .int a1)]) (fun _ => Nat.le_of_ble_eq_true rfl) (fun _ => rfl) (fun Γ hΓ _ C => ?_)
  subst hΓ
  unfold fX9_inOrder
  refine rf_aload_n C dX9_inOrder_0 rfl 0 rfl ?_
  refine rf_get C (v := .ref ((gE Γ).2.1 12)) cfX9 flX9_24 (by decide) oX9 rfl dX9_inOrder_1 ?_
  refine rf_iload_n C dX9_inOrder_4 rfl 1 rfl ?_
  refine rf_iald C ar12 dX9_inOrder_5 (fun v1 => ?_)
  exact rf_iret C dX9_inOrder_6

def fX1_passNonterminal (n : Nat) (t : Nat) (a1 : Int32) (a2 : Int32) (a3 : Int32) (a4 : Int32) (a5 : Int32) (s0 : PH) : Option (Unit × PH) :=
(lt a5 fun (v1 : Int32) =>
(loo2 (fun (recrec4 : Int32 → PH → Option (Unit × PH)) (v2 : Int32) (s3 : PH) =>
(if v2 < a4 then
(some ((), s3))
else
(lt (0 : Int64) fun (u5 : Int64) =>
(lt a2 fun (v6 : Int32) =>
(loo3 (fun (recrec10 : Int64 → Int32 → PH → Option (Unit × PH)) (u7 : Int64) (v8 : Int32) (s9 : PH) =>
(jn (fun (s11 : PH) =>
(wa 9 v2 (lt (si s11 (cId t 4) v2.toNatClampNeg u7.toInt32) fun (s13 : PH) =>
(lt (v2 + (-1 : Int32)) fun (v14 : Int32) =>
(recrec4 v14 s13))))) (fun (j12 : PH → Option (Unit × PH)) =>
(if a3 < v8 then
(j12 s9)
else
(if v2 < v8 then
(j12 s9)
else
(ra 9 v8 (s9.1 (cId t 4)) fun (v15 : Int32) =>
(jn (fun (u16 : Int64) (s17 : PH) =>
(lt (v8 + (nI 1)) fun (v19 : Int32) =>
(recrec10 u16 v19 s17))) (fun (j18 : Int64 → PH → Option (Unit × PH)) =>
(if v15 = 0 then
(j18 u7 s9)
else
(ra 9 v8 (s9.1 (cId t 4)) fun (v20 : Int32) =>
(bd (fX1_count t a1 v8 v2 s9) fun (r22 : Int32) (s21 : PH) =>
(lt (if (u7 + (v20.toInt64 * r22.toInt64)) < (1000000000 : Int64) then (u7 + (v20.toInt64 * r22.toInt64)) else (1000000000 : Int64)) fun (u23 : Int64) =>
(j18 u23 s21))))))))))))) n u5 v6 s3))))) n v1 s0))
set_option maxRecDepth 20000 in
set_option maxHeartbeats 2000000 in
theorem mX1_passNonterminal (l : Launch) (n : Nat) (t : Nat) (a1 : Int32) (a2 : Int32) (a3 : Int32) (a4 : Int32) (a5 : Int32) (s0 : PH) (ht : t < 2) : Ctv 148 l yX1_passNonterminal cX1_passNonterminal 10 none (rmOf 1 23) (fun E => [.ref (E.2.1 (cId t 0)), .int a1, .int a2, .int a3, .int a4, .int a5]) s0 (fX1_passNonterminal n t a1 a2 a3 a4 a5 s0) := by
  refine Ctv.of (by decide) rfl (lv := fun E => [(0, .ref (E.2.1 (cId t 0))), (1, .int a1), (2, .int a2), (3, .int a3), (4, .int a4), (5, .int a5)]) (fun _ => Nat.le_of_ble_eq_true rfl) (fun _ => rfl) (fun Γ hΓ _ C => ?_)
  subst hΓ
  unfold fX1_passNonterminal
  refine rf_iload C dX1_passNonterminal_0 5 rfl ?_
  refine rf_istore C (fun v1 => [(6, .int v1), (0, .ref ((gE Γ).2.1 (cId t 0))), (1, .int a1), (2, .int a2), (3, .int a3), (4, .int a4), (5, .int a5)]) dX1_passNonterminal_2 (by decide) (fun _ => rfl) (fun v1 => ?_)
  refine rf_sub [1, 2, 3, 4, 5, 0] rfl ?_
  refine rf_loo2 (fun _ _ => True) (fun _ s3 => s3) (fun v2 s3 => [(0, .ref ((gE Γ).2.1 (cId t 0))), (1, .int a1), (2, .int a2), (3, .int a3), (4, .int a4), (6, .int v2)]) (fun recrec4 hrec4 v2 s3 _ => ?_) n v1 s0 trivial
  refine rf_iload C dX1_passNonterminal_4 5 rfl ?_
  refine rf_iload C dX1_passNonterminal_6 4 rfl ?_
  refine rf_icmp_lt C 92 dX1_passNonterminal_8 (by decide) (fun _ => ?_) (fun _ => ?_)
  · exact rf_vret C dX1_passNonterminal_92
  refine rf_lconst C (v := (0 : Int64)) dX1_passNonterminal_11 rfl ?_
  refine rf_lstore C (fun u5 => [(7, .long u5), (0, .ref ((gE Γ).2.1 (cId t 0))), (1, .int a1), (2, .int a2), (3, .int a3), (4, .int a4), (6, .int v2)]) dX1_passNonterminal_12 (by decide) (fun _ => rfl) (fun u5 => ?_)
  refine rf_iload_n C dX1_passNonterminal_14 rfl 3 rfl ?_
  refine rf_istore C (fun v6 => [(9, .int v6), (7, .long u5), (0, .ref ((gE Γ).2.1 (cId t 0))), (1, .int a1), (2, .int a2), (3, .int a3), (4, .int a4), (6, .int v2)]) dX1_passNonterminal_15 (by decide) (fun _ => rfl) (fun v6 => ?_)
  refine rf_sub [2, 3, 4, 5, 6, 7, 1, 0] rfl ?_
  refine rf_loo3 (fun _ _ _ => True) (fun _ _ s9 => s9) (fun u7 v8 s9 => [(0, .ref ((gE Γ).2.1 (cId t 0))), (1, .int a1), (2, .int a2), (3, .int a3), (4, .int a4), (6, .int v2), (7, .long u7), (9, .int v8)]) (fun recrec10 hrec10 u7 v8 s9 _ => ?_) n u5 v6 s3 trivial
  refine rf_iload C dX1_passNonterminal_17 7 rfl ?_
  refine rf_iload_n C dX1_passNonterminal_19 rfl 3 rfl ?_
  refine rf_jn1 (fun _ => True) (fun  s11 => s11) (fun s11 => [(0, .ref ((gE Γ).2.1 (cId t 0))), (1, .int a1), (2, .int a2), (3, .int a3), (4, .int a4), (6, .int v2), (7, .long u7)]) (fun s11 => []) 76 (fun s11 _ => ?_) (fun j12 hj12 => ?_)
  · refine rf_aload_n C dX1_passNonterminal_76 rfl 0 rfl ?_
    refine rf_get C (v := .ref ((gE Γ).2.1 (cId t 4))) cfX1 flX1_18 (by decide) (oX1 ht) rfl dX1_passNonterminal_77 ?_
    refine rf_iload C dX1_passNonterminal_80 5 rfl ?_
    refine rf_lload C dX1_passNonterminal_82 6 rfl ?_
    refine rf_l2i C dX1_passNonterminal_84 ?_
    refine rf_iast C (arC4 ht) dX1_passNonterminal_85 (fun s13 => ?_)
    refine rf_iinc C (fun v14 => [(6, .int v14), (0, .ref ((gE Γ).2.1 (cId t 0))), (1, .int a1), (2, .int a2), (3, .int a3), (4, .int a4), (7, .long u7)]) dX1_passNonterminal_86 5 rfl rfl (by decide) (fun _ => rfl) (fun v14 => ?_)
    refine rf_goto C 4 dX1_passNonterminal_89 (by decide) ?_
    exact rf_sub [1, 2, 3, 4, 5, 0] rfl (hrec4 v14 s13 trivial)
  refine rf_icmp_gt C 76 dX1_passNonterminal_20 (by decide) (fun _ => ?_) (fun _ => ?_)
  · exact rf_sub [0, 1, 2, 3, 4, 5, 6] rfl (hj12 s9 trivial)
  refine rf_iload C dX1_passNonterminal_23 7 rfl ?_
  refine rf_iload C dX1_passNonterminal_25 5 rfl ?_
  refine rf_icmp_gt C 76 dX1_passNonterminal_27 (by decide) (fun _ => ?_) (fun _ => ?_)
  · exact rf_sub [0, 1, 2, 3, 4, 5, 6] rfl (hj12 s9 trivial)
  refine rf_aload_n C dX1_passNonterminal_30 rfl 0 rfl ?_
  refine rf_get C (v := .ref ((gE Γ).2.1 (cId t 4))) cfX1 flX1_18 (by decide) (oX1 ht) rfl dX1_passNonterminal_31 ?_
  refine rf_iload C dX1_passNonterminal_34 7 rfl ?_
  refine rf_iald C (arC4 ht) dX1_passNonterminal_36 (fun v15 => ?_)
  refine rf_jn2 (fun _ _ => True) (fun _ s17 => s17) (fun u16 s17 => [(0, .ref ((gE Γ).2.1 (cId t 0))), (1, .int a1), (2, .int a2), (3, .int a3), (4, .int a4), (6, .int v2), (7, .long u16), (9, .int v8)]) (fun u16 s17 => []) 70 (fun u16 s17 _ => ?_) (fun j18 hj18 => ?_)
  · refine rf_iinc C (fun v19 => [(9, .int v19), (0, .ref ((gE Γ).2.1 (cId t 0))), (1, .int a1), (2, .int a2), (3, .int a3), (4, .int a4), (6, .int v2), (7, .long u16)]) dX1_passNonterminal_70 7 rfl rfl (by decide) (fun _ => rfl) (fun v19 => ?_)
    refine rf_goto C 17 dX1_passNonterminal_73 (by decide) ?_
    exact rf_sub [1, 2, 3, 4, 5, 6, 7, 0] rfl (hrec10 u16 v19 s17 trivial)
  refine rf_if_eq C 70 dX1_passNonterminal_37 (by decide) (fun _ => ?_) (fun _ => ?_)
  · exact rf_sub [0, 1, 2, 3, 4, 5, 6, 7] rfl (hj18 u7 s9 trivial)
  refine rf_ldc2 C dX1_passNonterminal_40 klX1_55 ?_
  refine rf_lload C dX1_passNonterminal_43 6 rfl ?_
  refine rf_aload_n C dX1_passNonterminal_45 rfl 0 rfl ?_
  refine rf_get C (v := .ref ((gE Γ).2.1 (cId t 4))) cfX1 flX1_18 (by decide) (oX1 ht) rfl dX1_passNonterminal_46 ?_
  refine rf_iload C dX1_passNonterminal_49 7 rfl ?_
  refine rf_iald C (arC4 ht) dX1_passNonterminal_51 (fun v20 => ?_)
  refine rf_i2l C dX1_passNonterminal_52 ?_
  refine rf_aload_n C dX1_passNonterminal_53 rfl 0 rfl ?_
  refine rf_iload_n C dX1_passNonterminal_54 rfl 1 rfl ?_
  refine rf_iload C dX1_passNonterminal_55 7 rfl ?_
  refine rf_iload C dX1_passNonterminal_57 5 rfl ?_
  refine rf_callVi C (rmc := rmOf 0 0) [.int a1, .int v8, .int v2] (by decide) (mX1_count (gL Γ) t a1 v8 v2 s9 ht) mfX1_count mvX1_count mlX1_79 rfl (oX1 ht) rfl rfl rfl (Nat.le_of_ble_eq_true rfl) ⟨Nat.le_of_ble_eq_true rfl, Nat.le_of_ble_eq_true rfl⟩ dX1_passNonterminal_59 (fun r22 s21 => ?_)
  refine rf_i2l C dX1_passNonterminal_62 ?_
  refine rf_lmul C dX1_passNonterminal_63 ?_
  refine rf_ladd C dX1_passNonterminal_64 ?_
  refine rf_mminl C mlX1_57 (Nat.le_of_ble_eq_true rfl) (Nat.le_of_ble_eq_true rfl) mthL dX1_passNonterminal_65 ?_
  refine rf_lstore C (fun u23 => [(7, .long u23), (0, .ref ((gE Γ).2.1 (cId t 0))), (1, .int a1), (2, .int a2), (3, .int a3), (4, .int a4), (6, .int v2), (9, .int v8)]) dX1_passNonterminal_68 (by decide) (fun _ => rfl) (fun u23 => ?_)
  exact rf_sub [1, 2, 3, 4, 5, 6, 0, 7] rfl (hj18 u23 s21 trivial)

def fX1_passLetter (n : Nat) (t : Nat) (a1 : Int32) (a2 : Int32) (a3 : Int32) (s0 : PH) : Option (Unit × PH) :=
(lt (a2 + a3) fun (v1 : Int32) =>
(loo2 (fun (recrec4 : Int32 → PH → Option (Unit × PH)) (v2 : Int32) (s3 : PH) =>
(if v2 < a2 then
(some ((), s3))
else
(ra 8 v2 (s3.1 (cId t 1)) fun (v5 : Int32) =>
(jn (fun (v6 : Int32) (s7 : PH) =>
(wa 9 (v2 + (nI 1)) (lt (si s7 (cId t 4) (v2 + (nI 1)).toNatClampNeg v6) fun (s9 : PH) =>
(lt (v2 + (-1 : Int32)) fun (v10 : Int32) =>
(recrec4 v10 s9))))) (fun (j8 : Int32 → PH → Option (Unit × PH)) =>
(if v5 = a1 then
(ra 9 v2 (s3.1 (cId t 4)) fun (v11 : Int32) =>
(j8 v11 s3))
else
(j8 (nI 0) s3))))))) n v1 s0))
set_option maxRecDepth 20000 in
set_option maxHeartbeats 2000000 in
theorem mX1_passLetter (l : Launch) (n : Nat) (t : Nat) (a1 : Int32) (a2 : Int32) (a3 : Int32) (s0 : PH) (ht : t < 2) : Ctv 148 l yX1_passLetter cX1_passLetter 5 none (rmOf 0 0) (fun E => [.ref (E.2.1 (cId t 0)), .int a1, .int a2, .int a3]) s0 (fX1_passLetter n t a1 a2 a3 s0) := by
  refine Ctv.of (by decide) rfl (lv := fun E => [(0, .ref (E.2.1 (cId t 0))), (1, .int a1), (2, .int a2), (3, .int a3)]) (fun _ => Nat.le_of_ble_eq_true rfl) (fun _ => rfl) (fun Γ hΓ _ C => ?_)
  subst hΓ
  unfold fX1_passLetter
  refine rf_iload_n C dX1_passLetter_0 rfl 2 rfl ?_
  refine rf_iload_n C dX1_passLetter_1 rfl 3 rfl ?_
  refine rf_iadd C dX1_passLetter_2 ?_
  refine rf_istore C (fun v1 => [(4, .int v1), (0, .ref ((gE Γ).2.1 (cId t 0))), (1, .int a1), (2, .int a2), (3, .int a3)]) dX1_passLetter_3 (by decide) (fun _ => rfl) (fun v1 => ?_)
  refine rf_sub [1, 2, 3, 0] rfl ?_
  refine rf_loo2 (fun _ _ => True) (fun _ s3 => s3) (fun v2 s3 => [(0, .ref ((gE Γ).2.1 (cId t 0))), (1, .int a1), (2, .int a2), (4, .int v2)]) (fun recrec4 hrec4 v2 s3 _ => ?_) n v1 s0 trivial
  refine rf_iload C dX1_passLetter_5 3 rfl ?_
  refine rf_iload_n C dX1_passLetter_7 rfl 2 rfl ?_
  refine rf_icmp_lt C 48 dX1_passLetter_8 (by decide) (fun _ => ?_) (fun _ => ?_)
  · exact rf_vret C dX1_passLetter_48
  refine rf_aload_n C dX1_passLetter_11 rfl 0 rfl ?_
  refine rf_get C (v := .ref ((gE Γ).2.1 (cId t 4))) cfX1 flX1_18 (by decide) (oX1 ht) rfl dX1_passLetter_12 ?_
  refine rf_iload C dX1_passLetter_15 3 rfl ?_
  refine rf_iconst C (v := (nI 1)) dX1_passLetter_17 rfl ?_
  refine rf_iadd C dX1_passLetter_18 ?_
  refine rf_aload_n C dX1_passLetter_19 rfl 0 rfl ?_
  refine rf_get C (v := .ref ((gE Γ).2.1 (cId t 1))) cfX1 flX1_9 (by decide) (oX1 ht) rfl dX1_passLetter_20 ?_
  refine rf_iload C dX1_passLetter_23 3 rfl ?_
  refine rf_iald C (arC1 ht) dX1_passLetter_25 (fun v5 => ?_)
  refine rf_iload_n C dX1_passLetter_26 rfl 1 rfl ?_
  refine rf_jn2 (fun _ _ => True) (fun _ s7 => s7) (fun v6 s7 => [(0, .ref ((gE Γ).2.1 (cId t 0))), (1, .int a1), (2, .int a2), (4, .int v2)]) (fun v6 s7 => [.int v6, .int (v2 + (nI 1)), .ref ((gE Γ).2.1 (cId t 4))]) 41 (fun v6 s7 _ => ?_) (fun j8 hj8 => ?_)
  · refine rf_iast C (arC4 ht) dX1_passLetter_41 (fun s9 => ?_)
    refine rf_iinc C (fun v10 => [(4, .int v10), (0, .ref ((gE Γ).2.1 (cId t 0))), (1, .int a1), (2, .int a2)]) dX1_passLetter_42 3 rfl rfl (by decide) (fun _ => rfl) (fun v10 => ?_)
    refine rf_goto C 5 dX1_passLetter_45 (by decide) ?_
    exact rf_sub [1, 2, 3, 0] rfl (hrec4 v10 s9 trivial)
  refine rf_icmp_ne C 40 dX1_passLetter_27 (by decide) (fun _ => ?_) (fun _ => ?_)
  · refine rf_iconst C (v := (nI 0)) dX1_passLetter_40 rfl ?_
    exact rf_sub [0, 1, 2, 3] rfl (hj8 (nI 0) s3 trivial)
  refine rf_aload_n C dX1_passLetter_30 rfl 0 rfl ?_
  refine rf_get C (v := .ref ((gE Γ).2.1 (cId t 4))) cfX1 flX1_18 (by decide) (oX1 ht) rfl dX1_passLetter_31 ?_
  refine rf_iload C dX1_passLetter_34 3 rfl ?_
  refine rf_iald C (arC4 ht) dX1_passLetter_36 (fun v11 => ?_)
  refine rf_goto C 41 dX1_passLetter_37 (by decide) ?_
  exact rf_sub [0, 1, 2, 3] rfl (hj8 v11 s3 trivial)

