def fX12_many (s0 : PH) : Option (Int32 × PH) :=
(ra 113 (nI 0) (s0.1 149) fun (v1 : Int32) =>
(some (v1, s0)))
set_option maxRecDepth 20000 in
set_option maxHeartbeats 2000000 in
theorem mX12_many (l : Launch) (s0 : PH) : Cti 174 l yX12_many cX12_many 1 (some .int) (rmOf 0 0) (fun E => [.ref (E.2.1 148)]) s0 (fX12_many s0) := by
  refine Cti.of (by decide) rfl (lv := fun E => [(0, .ref (E.2.1 148))]) (fun _ => Nat.le_of_ble_eq_true rfl) (fun _ => rfl) (fun Γ hΓ _ C => ?_)
  subst hΓ
  unfold fX12_many
  refine rf_aload_n C dX12_many_0 rfl 0 rfl ?_
  refine rf_get C (v := .ref ((gE Γ).2.1 149)) cfX12 flX12_7 (by decide) oX12 rfl dX12_many_1 ?_
  refine rf_iconst C (v := (nI 0)) dX12_many_4 rfl ?_
  refine rf_iald C ar149 dX12_many_5 (fun v1 => ?_)
  exact rf_iret C dX12_many_6

def fX12_left (a1 : Int32) (s0 : PH) : Option (Int32 × PH) :=
(ra 113 ((nI 1) + a1) (s0.1 149) fun (v1 : Int32) =>
(some (v1, s0)))
set_option maxRecDepth 20000 in
set_option maxHeartbeats 2000000 in
theorem mX12_left (l : Launch) (a1 : Int32) (s0 : PH) : Cti 174 l yX12_left cX12_left 2 (some .int) (rmOf 0 0) (fun E => [.ref (E.2.1 148), .int a1]) s0 (fX12_left a1 s0) := by
  refine Cti.of (by decide) rfl (lv := fun E => [(0, .ref (E.2.1 148)), (1, .int a1)]) (fun _ => Nat.le_of_ble_eq_true rfl) (fun _ => rfl) (fun Γ hΓ _ C => ?_)
  subst hΓ
  unfold fX12_left
  refine rf_aload_n C dX12_left_0 rfl 0 rfl ?_
  refine rf_get C (v := .ref ((gE Γ).2.1 149)) cfX12 flX12_7 (by decide) oX12 rfl dX12_left_1 ?_
  refine rf_iconst C (v := (nI 1)) dX12_left_4 rfl ?_
  refine rf_iload_n C dX12_left_5 rfl 1 rfl ?_
  refine rf_iadd C dX12_left_6 ?_
  refine rf_iald C ar149 dX12_left_7 (fun v1 => ?_)
  exact rf_iret C dX12_left_8

def fX12_size (a1 : Int32) (s0 : PH) : Option (Int32 × PH) :=
(ra 113 ((nI 17) + a1) (s0.1 149) fun (v1 : Int32) =>
(some (v1, s0)))
set_option maxRecDepth 20000 in
set_option maxHeartbeats 2000000 in
theorem mX12_size (l : Launch) (a1 : Int32) (s0 : PH) : Cti 174 l yX12_size cX12_size 2 (some .int) (rmOf 0 0) (fun E => [.ref (E.2.1 148), .int a1]) s0 (fX12_size a1 s0) := by
  refine Cti.of (by decide) rfl (lv := fun E => [(0, .ref (E.2.1 148)), (1, .int a1)]) (fun _ => Nat.le_of_ble_eq_true rfl) (fun _ => rfl) (fun Γ hΓ _ C => ?_)
  subst hΓ
  unfold fX12_size
  refine rf_aload_n C dX12_size_0 rfl 0 rfl ?_
  refine rf_get C (v := .ref ((gE Γ).2.1 149)) cfX12 flX12_7 (by decide) oX12 rfl dX12_size_1 ?_
  refine rf_bipush C (v := (nI 17)) dX12_size_4 rfl ?_
  refine rf_iload_n C dX12_size_6 rfl 1 rfl ?_
  refine rf_iadd C dX12_size_7 ?_
  refine rf_iald C ar149 dX12_size_8 (fun v1 => ?_)
  exact rf_iret C dX12_size_9

def fX12_at (a1 : Int32) (a2 : Int32) (s0 : PH) : Option (Int32 × PH) :=
(ra 113 (((nI 33) + ((nI 5) * a1)) + a2) (s0.1 149) fun (v1 : Int32) =>
(some (v1, s0)))
set_option maxRecDepth 20000 in
set_option maxHeartbeats 2000000 in
theorem mX12_at (l : Launch) (a1 : Int32) (a2 : Int32) (s0 : PH) : Cti 174 l yX12_at cX12_at 3 (some .int) (rmOf 0 0) (fun E => [.ref (E.2.1 148), .int a1, .int a2]) s0 (fX12_at a1 a2 s0) := by
  refine Cti.of (by decide) rfl (lv := fun E => [(0, .ref (E.2.1 148)), (1, .int a1), (2, .int a2)]) (fun _ => Nat.le_of_ble_eq_true rfl) (fun _ => rfl) (fun Γ hΓ _ C => ?_)
  subst hΓ
  unfold fX12_at
  refine rf_aload_n C dX12_at_0 rfl 0 rfl ?_
  refine rf_get C (v := .ref ((gE Γ).2.1 149)) cfX12 flX12_7 (by decide) oX12 rfl dX12_at_1 ?_
  refine rf_bipush C (v := (nI 33)) dX12_at_4 rfl ?_
  refine rf_iconst C (v := (nI 5)) dX12_at_6 rfl ?_
  refine rf_iload_n C dX12_at_7 rfl 1 rfl ?_
  refine rf_imul C dX12_at_8 ?_
  refine rf_iadd C dX12_at_9 ?_
  refine rf_iload_n C dX12_at_10 rfl 2 rfl ?_
  refine rf_iadd C dX12_at_11 ?_
  refine rf_iald C ar149 dX12_at_12 (fun v1 => ?_)
  exact rf_iret C dX12_at_13

def fX12_isEmpty (a1 : Int32) (s0 : PH) : Option (Int32 × PH) :=
(if a1 < (nI 10) then
(some ((nI 0), s0))
else
(ra 6 (a1 - (nI 10)) (s0.1 153) fun (v1 : Int32) =>
(if v1 = 0 then
(some ((nI 0), s0))
else
(some ((nI 1), s0)))))
set_option maxRecDepth 20000 in
set_option maxHeartbeats 2000000 in
theorem mX12_isEmpty (l : Launch) (a1 : Int32) (s0 : PH) : Cti 174 l yX12_isEmpty cX12_isEmpty 2 (some .boolean) (rmOf 0 0) (fun E => [.ref (E.2.1 148), .int a1]) s0 (fX12_isEmpty a1 s0) := by
  refine Cti.of (by decide) rfl (lv := fun E => [(0, .ref (E.2.1 148)), (1, .int a1)]) (fun _ => Nat.le_of_ble_eq_true rfl) (fun _ => rfl) (fun Γ hΓ _ C => ?_)
  subst hΓ
  unfold fX12_isEmpty
  refine rf_iload_n C dX12_isEmpty_0 rfl 1 rfl ?_
  refine rf_bipush C (v := (nI 10)) dX12_isEmpty_1 rfl ?_
  refine rf_icmp_lt C 22 dX12_isEmpty_3 (by decide) (fun _ => ?_) (fun _ => ?_)
  · refine rf_iconst C (v := (nI 0)) dX12_isEmpty_22 rfl ?_
    exact rf_zret C rfl dX12_isEmpty_23
  refine rf_aload_n C dX12_isEmpty_6 rfl 0 rfl ?_
  refine rf_get C (v := .ref ((gE Γ).2.1 153)) cfX12 flX12_26 (by decide) oX12 rfl dX12_isEmpty_7 ?_
  refine rf_iload_n C dX12_isEmpty_10 rfl 1 rfl ?_
  refine rf_bipush C (v := (nI 10)) dX12_isEmpty_11 rfl ?_
  refine rf_isub C dX12_isEmpty_13 ?_
  refine rf_zald C ar153 dX12_isEmpty_14 (fun v1 => ?_)
  refine rf_if_eq C 22 dX12_isEmpty_15 (by decide) (fun _ => ?_) (fun _ => ?_)
  · refine rf_iconst C (v := (nI 0)) dX12_isEmpty_22 rfl ?_
    exact rf_zret C rfl dX12_isEmpty_23
  refine rf_iconst C (v := (nI 1)) dX12_isEmpty_18 rfl ?_
  refine rf_goto C 23 dX12_isEmpty_19 (by decide) ?_
  exact rf_zret C rfl dX12_isEmpty_23

def fX12_areEmpty (n : Nat) (a1 : Int32) (a2 : Int32) (a3 : Int32) (s0 : PH) : Option (Int32 × PH) :=
(lt (nI 1) fun (v1 : Int32) =>
(lt a2 fun (v2 : Int32) =>
(loo3 (fun (recrec6 : Int32 → Int32 → PH → Option (Int32 × PH)) (v3 : Int32) (v4 : Int32) (s5 : PH) =>
(if a3 ≤ v4 then
(rz v3 s5)
else
(jn (fun (v7 : Int32) (s8 : PH) =>
(lt v7 fun (v10 : Int32) =>
(lt (v4 + (nI 1)) fun (v11 : Int32) =>
(recrec6 v10 v11 s8)))) (fun (j9 : Int32 → PH → Option (Int32 × PH)) =>
(jn (fun (s12 : PH) =>
(j9 (nI 0) s12)) (fun (j13 : PH → Option (Int32 × PH)) =>
(if v3 = 0 then
(j13 s5)
else
(bd (fX12_at a1 v4 s5) fun (r15 : Int32) (s14 : PH) =>
(bd (fX12_isEmpty r15 s14) fun (r17 : Int32) (s16 : PH) =>
(if r17 = 0 then
(j13 s16)
else
(j9 (nI 1) s16))))))))))) n v1 v2 s0)))
set_option maxRecDepth 20000 in
set_option maxHeartbeats 2000000 in
theorem mX12_areEmpty (l : Launch) (n : Nat) (a1 : Int32) (a2 : Int32) (a3 : Int32) (s0 : PH) : Cti 174 l yX12_areEmpty cX12_areEmpty 6 (some .boolean) (rmOf 1 22) (fun E => [.ref (E.2.1 148), .int a1, .int a2, .int a3]) s0 (fX12_areEmpty n a1 a2 a3 s0) := by
  refine Cti.of (by decide) rfl (lv := fun E => [(0, .ref (E.2.1 148)), (1, .int a1), (2, .int a2), (3, .int a3)]) (fun _ => Nat.le_of_ble_eq_true rfl) (fun _ => rfl) (fun Γ hΓ _ C => ?_)
  subst hΓ
  unfold fX12_areEmpty
  refine rf_iconst C (v := (nI 1)) dX12_areEmpty_0 rfl ?_
  refine rf_istore C (fun v1 => [(4, .int v1), (0, .ref ((gE Γ).2.1 148)), (1, .int a1), (2, .int a2), (3, .int a3)]) dX12_areEmpty_1 (by decide) (fun _ => rfl) (fun v1 => ?_)
  refine rf_iload_n C dX12_areEmpty_3 rfl 3 rfl ?_
  refine rf_istore C (fun v2 => [(5, .int v2), (4, .int v1), (0, .ref ((gE Γ).2.1 148)), (1, .int a1), (2, .int a2), (3, .int a3)]) dX12_areEmpty_4 (by decide) (fun _ => rfl) (fun v2 => ?_)
  refine rf_sub [2, 3, 5, 1, 0] rfl ?_
  refine rf_loo3 (fun _ _ _ => True) (fun _ _ s5 => s5) (fun v3 v4 s5 => [(0, .ref ((gE Γ).2.1 148)), (1, .int a1), (3, .int a3), (4, .int v3), (5, .int v4)]) (fun recrec6 hrec6 v3 v4 s5 _ => ?_) n v1 v2 s0 trivial
  refine rf_iload C dX12_areEmpty_6 4 rfl ?_
  refine rf_iload_n C dX12_areEmpty_8 rfl 2 rfl ?_
  refine rf_icmp_ge C 44 dX12_areEmpty_9 (by decide) (fun _ => ?_) (fun _ => ?_)
  · refine rf_iload C dX12_areEmpty_44 3 rfl ?_
    exact rf_zretv C dX12_areEmpty_46
  refine rf_iload C dX12_areEmpty_12 3 rfl ?_
  refine rf_jn2 (fun _ _ => True) (fun _ s8 => s8) (fun v7 s8 => [(0, .ref ((gE Γ).2.1 148)), (1, .int a1), (3, .int a3), (5, .int v4)]) (fun v7 s8 => [.int v7]) 36 (fun v7 s8 _ => ?_) (fun j9 hj9 => ?_)
  · refine rf_istore C (fun v10 => [(4, .int v10), (0, .ref ((gE Γ).2.1 148)), (1, .int a1), (3, .int a3), (5, .int v4)]) dX12_areEmpty_36 (by decide) (fun _ => rfl) (fun v10 => ?_)
    refine rf_iinc C (fun v11 => [(5, .int v11), (4, .int v10), (0, .ref ((gE Γ).2.1 148)), (1, .int a1), (3, .int a3)]) dX12_areEmpty_38 4 rfl rfl (by decide) (fun _ => rfl) (fun v11 => ?_)
    refine rf_goto C 6 dX12_areEmpty_41 (by decide) ?_
    exact rf_sub [2, 3, 4, 1, 0] rfl (hrec6 v10 v11 s8 trivial)
  refine rf_jn1 (fun _ => True) (fun  s12 => s12) (fun s12 => [(0, .ref ((gE Γ).2.1 148)), (1, .int a1), (3, .int a3), (5, .int v4)]) (fun s12 => []) 35 (fun s12 _ => ?_) (fun j13 hj13 => ?_)
  · refine rf_iconst C (v := (nI 0)) dX12_areEmpty_35 rfl ?_
    exact rf_sub [0, 1, 2, 3] rfl (hj9 (nI 0) s12 trivial)
  refine rf_if_eq C 35 dX12_areEmpty_14 (by decide) (fun _ => ?_) (fun _ => ?_)
  · exact rf_sub [0, 1, 2, 4] rfl (hj13 s5 trivial)
  refine rf_aload_n C dX12_areEmpty_17 rfl 0 rfl ?_
  refine rf_aload_n C dX12_areEmpty_18 rfl 0 rfl ?_
  refine rf_iload_n C dX12_areEmpty_19 rfl 1 rfl ?_
  refine rf_iload C dX12_areEmpty_20 4 rfl ?_
  refine rf_callVi C (rmc := rmOf 0 0) [.int a1, .int v4] (by decide) (mX12_at (gL Γ) a1 v4 s5) mfX12_at mvX12_at mlX12_109 rfl oX12 rfl rfl rfl (Nat.le_of_ble_eq_true rfl) ⟨Nat.le_of_ble_eq_true rfl, Nat.le_of_ble_eq_true rfl⟩ dX12_areEmpty_22 (fun r15 s14 => ?_)
  refine rf_callVi C (rmc := rmOf 0 0) [.int r15] (by decide) (mX12_isEmpty (gL Γ) r15 s14) mfX12_isEmpty mvX12_isEmpty mlX12_113 rfl oX12 rfl rfl rfl (Nat.le_of_ble_eq_true rfl) ⟨Nat.le_of_ble_eq_true rfl, Nat.le_of_ble_eq_true rfl⟩ dX12_areEmpty_25 (fun r17 s16 => ?_)
  refine rf_if_eq C 35 dX12_areEmpty_28 (by decide) (fun _ => ?_) (fun _ => ?_)
  · exact rf_sub [0, 1, 2, 4] rfl (hj13 s16 trivial)
  refine rf_iconst C (v := (nI 1)) dX12_areEmpty_31 rfl ?_
  refine rf_goto C 36 dX12_areEmpty_32 (by decide) ?_
  exact rf_sub [0, 1, 2, 4] rfl (hj9 (nI 1) s16 trivial)

def fX12_laysEmpty (n : Nat) (s0 : PH) : Option (Unit × PH) :=
(lt (nI 0) fun (v1 : Int32) =>
(loo2 (fun (recrec4 : Int32 → PH → Option (Unit × PH)) (v2 : Int32) (s3 : PH) =>
(if (nI 6) ≤ v2 then
(lt (nI 0) fun (v5 : Int32) =>
(loo2 (fun (recrec8 : Int32 → PH → Option (Unit × PH)) (v6 : Int32) (s7 : PH) =>
(if (nI 6) ≤ v6 then
(some ((), s7))
else
(lt (nI 0) fun (v9 : Int32) =>
(loo2 (fun (recrec12 : Int32 → PH → Option (Unit × PH)) (v10 : Int32) (s11 : PH) =>
(bd (fX12_many s11) fun (r14 : Int32) (s13 : PH) =>
(if r14 ≤ v10 then
(lt (v6 + (nI 1)) fun (v15 : Int32) =>
(recrec8 v15 s13))
else
(bd (fX12_left v10 s13) fun (r17 : Int32) (s16 : PH) =>
(bd (fX12_left v10 s16) fun (r19 : Int32) (s18 : PH) =>
(ra 6 r19 (s18.1 153) fun (v20 : Int32) =>
(jn (fun (v21 : Int32) (s22 : PH) =>
(wa 6 r17 (lt (si s22 153 r17.toNatClampNeg (nz v21)) fun (s24 : PH) =>
(lt (v10 + (nI 1)) fun (v25 : Int32) =>
(recrec12 v25 s24))))) (fun (j23 : Int32 → PH → Option (Unit × PH)) =>
(jn (fun (s26 : PH) =>
(j23 (nI 1) s26)) (fun (j27 : PH → Option (Unit × PH)) =>
(if v20 = 0 then
(bd (fX12_size v10 s18) fun (r29 : Int32) (s28 : PH) =>
(bd (fX12_areEmpty n v10 (nI 0) r29 s28) fun (r31 : Int32) (s30 : PH) =>
(if r31 = 0 then
(j23 (nI 0) s30)
else
(j27 s30))))
else
(j27 s18)))))))))))) n v9 s7)))) n v5 s3))
else
(wa 6 v2 (lt (si s3 153 v2.toNatClampNeg (nz (nI 0))) fun (s32 : PH) =>
(lt (v2 + (nI 1)) fun (v33 : Int32) =>
(recrec4 v33 s32)))))) n v1 s0))
set_option maxRecDepth 20000 in
set_option maxHeartbeats 2000000 in
theorem mX12_laysEmpty (l : Launch) (n : Nat) (s0 : PH) : Ctv 174 l yX12_laysEmpty cX12_laysEmpty 3 none (rmOf 2 47) (fun E => [.ref (E.2.1 148)]) s0 (fX12_laysEmpty n s0) := by
  refine Ctv.of (by decide) rfl (lv := fun E => [(0, .ref (E.2.1 148))]) (fun _ => Nat.le_of_ble_eq_true rfl) (fun _ => rfl) (fun Γ hΓ _ C => ?_)
  subst hΓ
  unfold fX12_laysEmpty
  refine rf_iconst C (v := (nI 0)) dX12_laysEmpty_0 rfl ?_
  refine rf_istore_n C (fun v1 => [(1, .int v1), (0, .ref ((gE Γ).2.1 148))]) dX12_laysEmpty_1 rfl (by decide) (fun _ => rfl) (fun v1 => ?_)
  refine rf_sub [1, 0] rfl ?_
  refine rf_loo2 (fun _ _ => True) (fun _ s3 => s3) (fun v2 s3 => [(0, .ref ((gE Γ).2.1 148)), (1, .int v2)]) (fun recrec4 hrec4 v2 s3 _ => ?_) n v1 s0 trivial
  refine rf_iload_n C dX12_laysEmpty_2 rfl 1 rfl ?_
  refine rf_bipush C (v := (nI 6)) dX12_laysEmpty_3 rfl ?_
  refine rf_icmp_ge C 21 dX12_laysEmpty_5 (by decide) (fun _ => ?_) (fun _ => ?_)
  · refine rf_iconst C (v := (nI 0)) dX12_laysEmpty_21 rfl ?_
    refine rf_istore_n C (fun v5 => [(1, .int v5), (0, .ref ((gE Γ).2.1 148))]) dX12_laysEmpty_22 rfl (by decide) (fun _ => rfl) (fun v5 => ?_)
    refine rf_sub [1, 0] rfl ?_
    refine rf_loo2 (fun _ _ => True) (fun _ s7 => s7) (fun v6 s7 => [(0, .ref ((gE Γ).2.1 148)), (1, .int v6)]) (fun recrec8 hrec8 v6 s7 _ => ?_) n v5 s3 trivial
    refine rf_iload_n C dX12_laysEmpty_23 rfl 1 rfl ?_
    refine rf_bipush C (v := (nI 6)) dX12_laysEmpty_24 rfl ?_
    refine rf_icmp_ge C 93 dX12_laysEmpty_26 (by decide) (fun _ => ?_) (fun _ => ?_)
    · exact rf_vret C dX12_laysEmpty_93
    refine rf_iconst C (v := (nI 0)) dX12_laysEmpty_29 rfl ?_
    refine rf_istore_n C (fun v9 => [(2, .int v9), (0, .ref ((gE Γ).2.1 148)), (1, .int v6)]) dX12_laysEmpty_30 rfl (by decide) (fun _ => rfl) (fun v9 => ?_)
    refine rf_sub [1, 2, 0] rfl ?_
    refine rf_loo2 (fun _ _ => True) (fun _ s11 => s11) (fun v10 s11 => [(0, .ref ((gE Γ).2.1 148)), (1, .int v6), (2, .int v10)]) (fun recrec12 hrec12 v10 s11 _ => ?_) n v9 s7 trivial
    refine rf_iload_n C dX12_laysEmpty_31 rfl 2 rfl ?_
    refine rf_aload_n C dX12_laysEmpty_32 rfl 0 rfl ?_
    refine rf_callVi C (rmc := rmOf 0 0) [] (by decide) (mX12_many (gL Γ) s11) mfX12_many mvX12_many mlX12_94 rfl oX12 rfl rfl rfl (Nat.le_of_ble_eq_true rfl) ⟨Nat.le_of_ble_eq_true rfl, Nat.le_of_ble_eq_true rfl⟩ dX12_laysEmpty_33 (fun r14 s13 => ?_)
    refine rf_icmp_ge C 87 dX12_laysEmpty_36 (by decide) (fun _ => ?_) (fun _ => ?_)
    · refine rf_iinc C (fun v15 => [(1, .int v15), (0, .ref ((gE Γ).2.1 148)), (2, .int v10)]) dX12_laysEmpty_87 1 rfl rfl (by decide) (fun _ => rfl) (fun v15 => ?_)
      refine rf_goto C 23 dX12_laysEmpty_90 (by decide) ?_
      exact rf_sub [1, 0] rfl (hrec8 v15 s13 trivial)
    refine rf_aload_n C dX12_laysEmpty_39 rfl 0 rfl ?_
    refine rf_get C (v := .ref ((gE Γ).2.1 153)) cfX12 flX12_26 (by decide) oX12 rfl dX12_laysEmpty_40 ?_
    refine rf_aload_n C dX12_laysEmpty_43 rfl 0 rfl ?_
    refine rf_iload_n C dX12_laysEmpty_44 rfl 2 rfl ?_
    refine rf_callVi C (rmc := rmOf 0 0) [.int v10] (by decide) (mX12_left (gL Γ) v10 s13) mfX12_left mvX12_left mlX12_102 rfl oX12 rfl rfl rfl (Nat.le_of_ble_eq_true rfl) ⟨Nat.le_of_ble_eq_true rfl, Nat.le_of_ble_eq_true rfl⟩ dX12_laysEmpty_45 (fun r17 s16 => ?_)
    refine rf_aload_n C dX12_laysEmpty_48 rfl 0 rfl ?_
    refine rf_get C (v := .ref ((gE Γ).2.1 153)) cfX12 flX12_26 (by decide) oX12 rfl dX12_laysEmpty_49 ?_
    refine rf_aload_n C dX12_laysEmpty_52 rfl 0 rfl ?_
    refine rf_iload_n C dX12_laysEmpty_53 rfl 2 rfl ?_
    refine rf_callVi C (rmc := rmOf 0 0) [.int v10] (by decide) (mX12_left (gL Γ) v10 s16) mfX12_left mvX12_left mlX12_102 rfl oX12 rfl rfl rfl (Nat.le_of_ble_eq_true rfl) ⟨Nat.le_of_ble_eq_true rfl, Nat.le_of_ble_eq_true rfl⟩ dX12_laysEmpty_54 (fun r19 s18 => ?_)
    refine rf_zald C ar153 dX12_laysEmpty_57 (fun v20 => ?_)
    refine rf_jn2 (fun _ _ => True) (fun _ s22 => s22) (fun v21 s22 => [(0, .ref ((gE Γ).2.1 148)), (1, .int v6), (2, .int v10)]) (fun v21 s22 => [.int v21, .int r17, .ref ((gE Γ).2.1 153)]) 80 (fun v21 s22 _ => ?_) (fun j23 hj23 => ?_)
    · refine rf_zast C ar153 dX12_laysEmpty_80 (fun s24 => ?_)
      refine rf_iinc C (fun v25 => [(2, .int v25), (0, .ref ((gE Γ).2.1 148)), (1, .int v6)]) dX12_laysEmpty_81 2 rfl rfl (by decide) (fun _ => rfl) (fun v25 => ?_)
      refine rf_goto C 31 dX12_laysEmpty_84 (by decide) ?_
      exact rf_sub [1, 2, 0] rfl (hrec12 v25 s24 trivial)
    refine rf_jn1 (fun _ => True) (fun  s26 => s26) (fun s26 => [(0, .ref ((gE Γ).2.1 148)), (1, .int v6), (2, .int v10)]) (fun s26 => [.int r17, .ref ((gE Γ).2.1 153)]) 75 (fun s26 _ => ?_) (fun j27 hj27 => ?_)
    · refine rf_iconst C (v := (nI 1)) dX12_laysEmpty_75 rfl ?_
      refine rf_goto C 80 dX12_laysEmpty_76 (by decide) ?_
      exact rf_sub [0, 1, 2] rfl (hj23 (nI 1) s26 trivial)
    refine rf_if_ne C 75 dX12_laysEmpty_58 (by decide) (fun _ => ?_) (fun _ => ?_)
    · exact rf_sub [0, 1, 2] rfl (hj27 s18 trivial)
    refine rf_aload_n C dX12_laysEmpty_61 rfl 0 rfl ?_
    refine rf_iload_n C dX12_laysEmpty_62 rfl 2 rfl ?_
    refine rf_iconst C (v := (nI 0)) dX12_laysEmpty_63 rfl ?_
    refine rf_aload_n C dX12_laysEmpty_64 rfl 0 rfl ?_
    refine rf_iload_n C dX12_laysEmpty_65 rfl 2 rfl ?_
    refine rf_callVi C (rmc := rmOf 0 0) [.int v10] (by decide) (mX12_size (gL Γ) v10 s18) mfX12_size mvX12_size mlX12_117 rfl oX12 rfl rfl rfl (Nat.le_of_ble_eq_true rfl) ⟨Nat.le_of_ble_eq_true rfl, Nat.le_of_ble_eq_true rfl⟩ dX12_laysEmpty_66 (fun r29 s28 => ?_)
    refine rf_callVi C (rmc := rmOf 1 22) [.int v10, .int (nI 0), .int r29] (by decide) (mX12_areEmpty (gL Γ) n v10 (nI 0) r29 s28) mfX12_areEmpty mvX12_areEmpty mlX12_120 rfl oX12 rfl rfl rfl (Nat.le_of_ble_eq_true rfl) ⟨Nat.le_of_ble_eq_true rfl, Nat.le_of_ble_eq_true rfl⟩ dX12_laysEmpty_69 (fun r31 s30 => ?_)
    refine rf_if_eq C 79 dX12_laysEmpty_72 (by decide) (fun _ => ?_) (fun _ => ?_)
    · refine rf_iconst C (v := (nI 0)) dX12_laysEmpty_79 rfl ?_
      exact rf_sub [0, 1, 2] rfl (hj23 (nI 0) s30 trivial)
    exact rf_sub [0, 1, 2] rfl (hj27 s30 trivial)
  refine rf_aload_n C dX12_laysEmpty_8 rfl 0 rfl ?_
  refine rf_get C (v := .ref ((gE Γ).2.1 153)) cfX12 flX12_26 (by decide) oX12 rfl dX12_laysEmpty_9 ?_
  refine rf_iload_n C dX12_laysEmpty_12 rfl 1 rfl ?_
  refine rf_iconst C (v := (nI 0)) dX12_laysEmpty_13 rfl ?_
  refine rf_zast C ar153 dX12_laysEmpty_14 (fun s32 => ?_)
  refine rf_iinc C (fun v33 => [(1, .int v33), (0, .ref ((gE Γ).2.1 148))]) dX12_laysEmpty_15 1 rfl rfl (by decide) (fun _ => rfl) (fun v33 => ?_)
  refine rf_goto C 2 dX12_laysEmpty_18 (by decide) ?_
  exact rf_sub [1, 0] rfl (hrec4 v33 s32 trivial)

def fX12_laysFewest (n : Nat) (s0 : PH) : Option (Unit × PH) :=
(lt (nI 0) fun (v1 : Int32) =>
(loo2 (fun (recrec4 : Int32 → PH → Option (Unit × PH)) (v2 : Int32) (s3 : PH) =>
(if (nI 6) ≤ v2 then
(lt (nI 0) fun (v5 : Int32) =>
(loo2 (fun (recrec8 : Int32 → PH → Option (Unit × PH)) (v6 : Int32) (s7 : PH) =>
(if (nI 6) ≤ v6 then
(some ((), s7))
else
(lt (nI 0) fun (v9 : Int32) =>
(loo2 (fun (recrec12 : Int32 → PH → Option (Unit × PH)) (v10 : Int32) (s11 : PH) =>
(bd (fX12_many s11) fun (r14 : Int32) (s13 : PH) =>
(if r14 ≤ v10 then
(lt (v6 + (nI 1)) fun (v15 : Int32) =>
(recrec8 v15 s13))
else
(lt (0 : Int64) fun (u16 : Int64) =>
(lt (nI 0) fun (v17 : Int32) =>
(loo3 (fun (recrec21 : Int64 → Int32 → PH → Option (Unit × PH)) (u18 : Int64) (v19 : Int32) (s20 : PH) =>
(bd (fX12_size v10 s20) fun (r23 : Int32) (s22 : PH) =>
(if r23 ≤ v19 then
(bd (fX12_left v10 s22) fun (r25 : Int32) (s24 : PH) =>
(bd (fX12_left v10 s24) fun (r27 : Int32) (s26 : PH) =>
(ra 6 r27 (s26.1 154) fun (v28 : Int32) =>
(jn (fun (v29 : Int32) (s30 : PH) =>
(wa 6 r25 (lt (si s30 154 r25.toNatClampNeg v29) fun (s32 : PH) =>
(lt (v10 + (nI 1)) fun (v33 : Int32) =>
(recrec12 v33 s32))))) (fun (j31 : Int32 → PH → Option (Unit × PH)) =>
(if v28.toInt64 ≤ u18 then
(bd (fX12_left v10 s26) fun (r35 : Int32) (s34 : PH) =>
(ra 6 r35 (s34.1 154) fun (v36 : Int32) =>
(j31 v36 s34)))
else
(j31 u18.toInt32 s26)))))))
else
(bd (fX12_at v10 v19 s22) fun (r38 : Int32) (s37 : PH) =>
(jn (fun (u39 : Int64) (s40 : PH) =>
(lt (u18 + u39) fun (u42 : Int64) =>
(lt (v19 + (nI 1)) fun (v43 : Int32) =>
(recrec21 u42 v43 s40)))) (fun (j41 : Int64 → PH → Option (Unit × PH)) =>
(if (nI 10) ≤ r38 then
(bd (fX12_at v10 v19 s37) fun (r45 : Int32) (s44 : PH) =>
(ra 6 (r45 - (nI 10)) (s44.1 154) fun (v46 : Int32) =>
(j41 v46.toInt64 s44)))
else
(j41 (1 : Int64) s37)))))))) n u16 v17 s13)))))) n v9 s7)))) n v5 s3))
else
(wa 6 v2 (lt (si s3 154 v2.toNatClampNeg (nI 1000000000)) fun (s47 : PH) =>
(lt (v2 + (nI 1)) fun (v48 : Int32) =>
(recrec4 v48 s47)))))) n v1 s0))
set_option maxRecDepth 20000 in
set_option maxHeartbeats 2000000 in
theorem mX12_laysFewest (l : Launch) (n : Nat) (s0 : PH) : Ctv 174 l yX12_laysFewest cX12_laysFewest 6 none (rmOf 1 22) (fun E => [.ref (E.2.1 148)]) s0 (fX12_laysFewest n s0) := by
  refine Ctv.of (by decide) rfl (lv := fun E => [(0, .ref (E.2.1 148))]) (fun _ => Nat.le_of_ble_eq_true rfl) (fun _ => rfl) (fun Γ hΓ _ C => ?_)
  subst hΓ
  unfold fX12_laysFewest
  refine rf_iconst C (v := (nI 0)) dX12_laysFewest_0 rfl ?_
  refine rf_istore_n C (fun v1 => [(1, .int v1), (0, .ref ((gE Γ).2.1 148))]) dX12_laysFewest_1 rfl (by decide) (fun _ => rfl) (fun v1 => ?_)
  refine rf_sub [1, 0] rfl ?_
  refine rf_loo2 (fun _ _ => True) (fun _ s3 => s3) (fun v2 s3 => [(0, .ref ((gE Γ).2.1 148)), (1, .int v2)]) (fun recrec4 hrec4 v2 s3 _ => ?_) n v1 s0 trivial
  refine rf_iload_n C dX12_laysFewest_2 rfl 1 rfl ?_
  refine rf_bipush C (v := (nI 6)) dX12_laysFewest_3 rfl ?_
  refine rf_icmp_ge C 22 dX12_laysFewest_5 (by decide) (fun _ => ?_) (fun _ => ?_)
  · refine rf_iconst C (v := (nI 0)) dX12_laysFewest_22 rfl ?_
    refine rf_istore_n C (fun v5 => [(1, .int v5), (0, .ref ((gE Γ).2.1 148))]) dX12_laysFewest_23 rfl (by decide) (fun _ => rfl) (fun v5 => ?_)
    refine rf_sub [1, 0] rfl ?_
    refine rf_loo2 (fun _ _ => True) (fun _ s7 => s7) (fun v6 s7 => [(0, .ref ((gE Γ).2.1 148)), (1, .int v6)]) (fun recrec8 hrec8 v6 s7 _ => ?_) n v5 s3 trivial
    refine rf_iload_n C dX12_laysFewest_24 rfl 1 rfl ?_
    refine rf_bipush C (v := (nI 6)) dX12_laysFewest_25 rfl ?_
    refine rf_icmp_ge C 149 dX12_laysFewest_27 (by decide) (fun _ => ?_) (fun _ => ?_)
    · exact rf_vret C dX12_laysFewest_149
    refine rf_iconst C (v := (nI 0)) dX12_laysFewest_30 rfl ?_
    refine rf_istore_n C (fun v9 => [(2, .int v9), (0, .ref ((gE Γ).2.1 148)), (1, .int v6)]) dX12_laysFewest_31 rfl (by decide) (fun _ => rfl) (fun v9 => ?_)
    refine rf_sub [1, 2, 0] rfl ?_
    refine rf_loo2 (fun _ _ => True) (fun _ s11 => s11) (fun v10 s11 => [(0, .ref ((gE Γ).2.1 148)), (1, .int v6), (2, .int v10)]) (fun recrec12 hrec12 v10 s11 _ => ?_) n v9 s7 trivial
    refine rf_iload_n C dX12_laysFewest_32 rfl 2 rfl ?_
    refine rf_aload_n C dX12_laysFewest_33 rfl 0 rfl ?_
    refine rf_callVi C (rmc := rmOf 0 0) [] (by decide) (mX12_many (gL Γ) s11) mfX12_many mvX12_many mlX12_94 rfl oX12 rfl rfl rfl (Nat.le_of_ble_eq_true rfl) ⟨Nat.le_of_ble_eq_true rfl, Nat.le_of_ble_eq_true rfl⟩ dX12_laysFewest_34 (fun r14 s13 => ?_)
    refine rf_icmp_ge C 143 dX12_laysFewest_37 (by decide) (fun _ => ?_) (fun _ => ?_)
    · refine rf_iinc C (fun v15 => [(1, .int v15), (0, .ref ((gE Γ).2.1 148)), (2, .int v10)]) dX12_laysFewest_143 1 rfl rfl (by decide) (fun _ => rfl) (fun v15 => ?_)
      refine rf_goto C 24 dX12_laysFewest_146 (by decide) ?_
      exact rf_sub [1, 0] rfl (hrec8 v15 s13 trivial)
    refine rf_lconst C (v := (0 : Int64)) dX12_laysFewest_40 rfl ?_
    refine rf_lstore_n C (fun u16 => [(3, .long u16), (0, .ref ((gE Γ).2.1 148)), (1, .int v6), (2, .int v10)]) dX12_laysFewest_41 rfl (by decide) (fun _ => rfl) (fun u16 => ?_)
    refine rf_iconst C (v := (nI 0)) dX12_laysFewest_42 rfl ?_
    refine rf_istore C (fun v17 => [(5, .int v17), (3, .long u16), (0, .ref ((gE Γ).2.1 148)), (1, .int v6), (2, .int v10)]) dX12_laysFewest_43 (by decide) (fun _ => rfl) (fun v17 => ?_)
    refine rf_sub [2, 3, 4, 1, 0] rfl ?_
    refine rf_loo3 (fun _ _ _ => True) (fun _ _ s20 => s20) (fun u18 v19 s20 => [(0, .ref ((gE Γ).2.1 148)), (1, .int v6), (2, .int v10), (3, .long u18), (5, .int v19)]) (fun recrec21 hrec21 u18 v19 s20 _ => ?_) n u16 v17 s13 trivial
    refine rf_iload C dX12_laysFewest_45 4 rfl ?_
    refine rf_aload_n C dX12_laysFewest_47 rfl 0 rfl ?_
    refine rf_iload_n C dX12_laysFewest_48 rfl 2 rfl ?_
    refine rf_callVi C (rmc := rmOf 0 0) [.int v10] (by decide) (mX12_size (gL Γ) v10 s20) mfX12_size mvX12_size mlX12_117 rfl oX12 rfl rfl rfl (Nat.le_of_ble_eq_true rfl) ⟨Nat.le_of_ble_eq_true rfl, Nat.le_of_ble_eq_true rfl⟩ dX12_laysFewest_49 (fun r23 s22 => ?_)
    refine rf_icmp_ge C 96 dX12_laysFewest_52 (by decide) (fun _ => ?_) (fun _ => ?_)
    · refine rf_aload_n C dX12_laysFewest_96 rfl 0 rfl ?_
      refine rf_get C (v := .ref ((gE Γ).2.1 154)) cfX12 flX12_30 (by decide) oX12 rfl dX12_laysFewest_97 ?_
      refine rf_aload_n C dX12_laysFewest_100 rfl 0 rfl ?_
      refine rf_iload_n C dX12_laysFewest_101 rfl 2 rfl ?_
      refine rf_callVi C (rmc := rmOf 0 0) [.int v10] (by decide) (mX12_left (gL Γ) v10 s22) mfX12_left mvX12_left mlX12_102 rfl oX12 rfl rfl rfl (Nat.le_of_ble_eq_true rfl) ⟨Nat.le_of_ble_eq_true rfl, Nat.le_of_ble_eq_true rfl⟩ dX12_laysFewest_102 (fun r25 s24 => ?_)
      refine rf_lload_n C dX12_laysFewest_105 rfl 3 rfl ?_
      refine rf_aload_n C dX12_laysFewest_106 rfl 0 rfl ?_
      refine rf_get C (v := .ref ((gE Γ).2.1 154)) cfX12 flX12_30 (by decide) oX12 rfl dX12_laysFewest_107 ?_
      refine rf_aload_n C dX12_laysFewest_110 rfl 0 rfl ?_
      refine rf_iload_n C dX12_laysFewest_111 rfl 2 rfl ?_
      refine rf_callVi C (rmc := rmOf 0 0) [.int v10] (by decide) (mX12_left (gL Γ) v10 s24) mfX12_left mvX12_left mlX12_102 rfl oX12 rfl rfl rfl (Nat.le_of_ble_eq_true rfl) ⟨Nat.le_of_ble_eq_true rfl, Nat.le_of_ble_eq_true rfl⟩ dX12_laysFewest_112 (fun r27 s26 => ?_)
      refine rf_iald C ar154 dX12_laysFewest_115 (fun v28 => ?_)
      refine rf_i2l C dX12_laysFewest_116 ?_
      refine rf_jn2 (fun _ _ => True) (fun _ s30 => s30) (fun v29 s30 => [(0, .ref ((gE Γ).2.1 148)), (1, .int v6), (2, .int v10)]) (fun v29 s30 => [.int v29, .int r25, .ref ((gE Γ).2.1 154)]) 136 (fun v29 s30 _ => ?_) (fun j31 hj31 => ?_)
      · refine rf_iast C ar154 dX12_laysFewest_136 (fun s32 => ?_)
        refine rf_iinc C (fun v33 => [(2, .int v33), (0, .ref ((gE Γ).2.1 148)), (1, .int v6)]) dX12_laysFewest_137 2 rfl rfl (by decide) (fun _ => rfl) (fun v33 => ?_)
        refine rf_goto C 32 dX12_laysFewest_140 (by decide) ?_
        exact rf_sub [1, 2, 0] rfl (hrec12 v33 s32 trivial)
      refine rf_lcmp_ge C 126 dX12_laysFewest_117 dX12_laysFewest_118 (by decide) (fun _ => ?_) (fun _ => ?_)
      · refine rf_aload_n C dX12_laysFewest_126 rfl 0 rfl ?_
        refine rf_get C (v := .ref ((gE Γ).2.1 154)) cfX12 flX12_30 (by decide) oX12 rfl dX12_laysFewest_127 ?_
        refine rf_aload_n C dX12_laysFewest_130 rfl 0 rfl ?_
        refine rf_iload_n C dX12_laysFewest_131 rfl 2 rfl ?_
        refine rf_callVi C (rmc := rmOf 0 0) [.int v10] (by decide) (mX12_left (gL Γ) v10 s26) mfX12_left mvX12_left mlX12_102 rfl oX12 rfl rfl rfl (Nat.le_of_ble_eq_true rfl) ⟨Nat.le_of_ble_eq_true rfl, Nat.le_of_ble_eq_true rfl⟩ dX12_laysFewest_132 (fun r35 s34 => ?_)
        refine rf_iald C ar154 dX12_laysFewest_135 (fun v36 => ?_)
        exact rf_sub [0, 1, 2] rfl (hj31 v36 s34 trivial)
      refine rf_lload_n C dX12_laysFewest_121 rfl 3 rfl ?_
      refine rf_l2i C dX12_laysFewest_122 ?_
      refine rf_goto C 136 dX12_laysFewest_123 (by decide) ?_
      exact rf_sub [0, 1, 2] rfl (hj31 u18.toInt32 s26 trivial)
    refine rf_lload_n C dX12_laysFewest_55 rfl 3 rfl ?_
    refine rf_aload_n C dX12_laysFewest_56 rfl 0 rfl ?_
    refine rf_iload_n C dX12_laysFewest_57 rfl 2 rfl ?_
    refine rf_iload C dX12_laysFewest_58 4 rfl ?_
    refine rf_callVi C (rmc := rmOf 0 0) [.int v10, .int v19] (by decide) (mX12_at (gL Γ) v10 v19 s22) mfX12_at mvX12_at mlX12_109 rfl oX12 rfl rfl rfl (Nat.le_of_ble_eq_true rfl) ⟨Nat.le_of_ble_eq_true rfl, Nat.le_of_ble_eq_true rfl⟩ dX12_laysFewest_60 (fun r38 s37 => ?_)
    refine rf_bipush C (v := (nI 10)) dX12_laysFewest_63 rfl ?_
    refine rf_jn2 (fun _ _ => True) (fun _ s40 => s40) (fun u39 s40 => [(0, .ref ((gE Γ).2.1 148)), (1, .int v6), (2, .int v10), (5, .int v19)]) (fun u39 s40 => [.long u39, .long u18]) 88 (fun u39 s40 _ => ?_) (fun j41 hj41 => ?_)
    · refine rf_ladd C dX12_laysFewest_88 ?_
      refine rf_lstore_n C (fun u42 => [(3, .long u42), (0, .ref ((gE Γ).2.1 148)), (1, .int v6), (2, .int v10), (5, .int v19)]) dX12_laysFewest_89 rfl (by decide) (fun _ => rfl) (fun u42 => ?_)
      refine rf_iinc C (fun v43 => [(5, .int v43), (3, .long u42), (0, .ref ((gE Γ).2.1 148)), (1, .int v6), (2, .int v10)]) dX12_laysFewest_90 4 rfl rfl (by decide) (fun _ => rfl) (fun v43 => ?_)
      refine rf_goto C 45 dX12_laysFewest_93 (by decide) ?_
      exact rf_sub [2, 3, 4, 1, 0] rfl (hrec21 u42 v43 s40 trivial)
    refine rf_icmp_ge C 72 dX12_laysFewest_65 (by decide) (fun _ => ?_) (fun _ => ?_)
    · refine rf_aload_n C dX12_laysFewest_72 rfl 0 rfl ?_
      refine rf_get C (v := .ref ((gE Γ).2.1 154)) cfX12 flX12_30 (by decide) oX12 rfl dX12_laysFewest_73 ?_
      refine rf_aload_n C dX12_laysFewest_76 rfl 0 rfl ?_
      refine rf_iload_n C dX12_laysFewest_77 rfl 2 rfl ?_
      refine rf_iload C dX12_laysFewest_78 4 rfl ?_
      refine rf_callVi C (rmc := rmOf 0 0) [.int v10, .int v19] (by decide) (mX12_at (gL Γ) v10 v19 s37) mfX12_at mvX12_at mlX12_109 rfl oX12 rfl rfl rfl (Nat.le_of_ble_eq_true rfl) ⟨Nat.le_of_ble_eq_true rfl, Nat.le_of_ble_eq_true rfl⟩ dX12_laysFewest_80 (fun r45 s44 => ?_)
      refine rf_bipush C (v := (nI 10)) dX12_laysFewest_83 rfl ?_
      refine rf_isub C dX12_laysFewest_85 ?_
      refine rf_iald C ar154 dX12_laysFewest_86 (fun v46 => ?_)
      refine rf_i2l C dX12_laysFewest_87 ?_
      exact rf_sub [0, 1, 2, 4] rfl (hj41 v46.toInt64 s44 trivial)
    refine rf_lconst C (v := (1 : Int64)) dX12_laysFewest_68 rfl ?_
    refine rf_goto C 88 dX12_laysFewest_69 (by decide) ?_
    exact rf_sub [0, 1, 2, 4] rfl (hj41 (1 : Int64) s37 trivial)
  refine rf_aload_n C dX12_laysFewest_8 rfl 0 rfl ?_
  refine rf_get C (v := .ref ((gE Γ).2.1 154)) cfX12 flX12_30 (by decide) oX12 rfl dX12_laysFewest_9 ?_
  refine rf_iload_n C dX12_laysFewest_12 rfl 1 rfl ?_
  refine rf_ldc C dX12_laysFewest_13 kiX12_123 ?_
  refine rf_iast C ar154 dX12_laysFewest_15 (fun s47 => ?_)
  refine rf_iinc C (fun v48 => [(1, .int v48), (0, .ref ((gE Γ).2.1 148))]) dX12_laysFewest_16 1 rfl rfl (by decide) (fun _ => rfl) (fun v48 => ?_)
  refine rf_goto C 2 dX12_laysFewest_19 (by decide) ?_
  exact rf_sub [1, 0] rfl (hrec4 v48 s47 trivial)

def fX12_start (s0 : PH) : Option (Int32 × PH) :=
(ra 113 (nI 1) (s0.1 149) fun (v1 : Int32) =>
(some (v1, s0)))
set_option maxRecDepth 20000 in
set_option maxHeartbeats 2000000 in
theorem mX12_start (l : Launch) (s0 : PH) : Cti 174 l yX12_start cX12_start 1 (some .int) (rmOf 0 0) (fun E => [.ref (E.2.1 148)]) s0 (fX12_start s0) := by
  refine Cti.of (by decide) rfl (lv := fun E => [(0, .ref (E.2.1 148))]) (fun _ => Nat.le_of_ble_eq_true rfl) (fun _ => rfl) (fun Γ hΓ _ C => ?_)
  subst hΓ
  unfold fX12_start
  refine rf_aload_n C dX12_start_0 rfl 0 rfl ?_
  refine rf_get C (v := .ref ((gE Γ).2.1 149)) cfX12 flX12_7 (by decide) oX12 rfl dX12_start_1 ?_
  refine rf_iconst C (v := (nI 1)) dX12_start_4 rfl ?_
  refine rf_iald C ar149 dX12_start_5 (fun v1 => ?_)
  exact rf_iret C dX12_start_6

def fX12_laysReached (n : Nat) (s0 : PH) : Option (Unit × PH) :=
(lt (nI 0) fun (v1 : Int32) =>
(loo2 (fun (recrec4 : Int32 → PH → Option (Unit × PH)) (v2 : Int32) (s3 : PH) =>
(if (nI 6) ≤ v2 then
(lt (nI 0) fun (v5 : Int32) =>
(loo2 (fun (recrec8 : Int32 → PH → Option (Unit × PH)) (v6 : Int32) (s7 : PH) =>
(if (nI 6) ≤ v6 then
(some ((), s7))
else
(lt (nI 0) fun (v9 : Int32) =>
(loo2 (fun (recrec12 : Int32 → PH → Option (Unit × PH)) (v10 : Int32) (s11 : PH) =>
(bd (fX12_many s11) fun (r14 : Int32) (s13 : PH) =>
(if r14 ≤ v10 then
(lt (v6 + (nI 1)) fun (v15 : Int32) =>
(recrec8 v15 s13))
else
(lt (nI 0) fun (v16 : Int32) =>
(loo2 (fun (recrec19 : Int32 → PH → Option (Unit × PH)) (v17 : Int32) (s18 : PH) =>
(bd (fX12_size v10 s18) fun (r21 : Int32) (s20 : PH) =>
(jn (fun (s22 : PH) =>
(lt (v10 + (nI 1)) fun (v24 : Int32) =>
(recrec12 v24 s22))) (fun (j23 : PH → Option (Unit × PH)) =>
(if r21 ≤ v17 then
(j23 s20)
else
(bd (fX12_left v10 s20) fun (r26 : Int32) (s25 : PH) =>
(ra 6 r26 (s25.1 155) fun (v27 : Int32) =>
(if v27 = 0 then
(j23 s25)
else
(bd (fX12_at v10 v17 s25) fun (r29 : Int32) (s28 : PH) =>
(jn (fun (s30 : PH) =>
(lt (v17 + (nI 1)) fun (v32 : Int32) =>
(recrec19 v32 s30))) (fun (j31 : PH → Option (Unit × PH)) =>
(if r29 < (nI 10) then
(j31 s28)
else
(bd (fX12_at v10 v17 s28) fun (r34 : Int32) (s33 : PH) =>
(wa 6 (r34 - (nI 10)) (lt (si s33 155 (r34 - (nI 10)).toNatClampNeg (nz (nI 1))) fun (s35 : PH) =>
(j31 s35)))))))))))))))) n v16 s13))))) n v9 s7)))) n v5 s3))
else
(bd (fX12_start s3) fun (r37 : Int32) (s36 : PH) =>
(jn (fun (v38 : Int32) (s39 : PH) =>
(wa 6 v2 (lt (si s39 155 v2.toNatClampNeg (nz v38)) fun (s41 : PH) =>
(lt (v2 + (nI 1)) fun (v42 : Int32) =>
(recrec4 v42 s41))))) (fun (j40 : Int32 → PH → Option (Unit × PH)) =>
(if v2 = r37 then
(j40 (nI 1) s36)
else
(j40 (nI 0) s36))))))) n v1 s0))
set_option maxRecDepth 20000 in
set_option maxHeartbeats 2000000 in
theorem mX12_laysReached (l : Launch) (n : Nat) (s0 : PH) : Ctv 174 l yX12_laysReached cX12_laysReached 4 none (rmOf 1 22) (fun E => [.ref (E.2.1 148)]) s0 (fX12_laysReached n s0) := by
  refine Ctv.of (by decide) rfl (lv := fun E => [(0, .ref (E.2.1 148))]) (fun _ => Nat.le_of_ble_eq_true rfl) (fun _ => rfl) (fun Γ hΓ _ C => ?_)
  subst hΓ
  unfold fX12_laysReached
  refine rf_iconst C (v := (nI 0)) dX12_laysReached_0 rfl ?_
  refine rf_istore_n C (fun v1 => [(1, .int v1), (0, .ref ((gE Γ).2.1 148))]) dX12_laysReached_1 rfl (by decide) (fun _ => rfl) (fun v1 => ?_)
  refine rf_sub [1, 0] rfl ?_
  refine rf_loo2 (fun _ _ => True) (fun _ s3 => s3) (fun v2 s3 => [(0, .ref ((gE Γ).2.1 148)), (1, .int v2)]) (fun recrec4 hrec4 v2 s3 _ => ?_) n v1 s0 trivial
  refine rf_iload_n C dX12_laysReached_2 rfl 1 rfl ?_
  refine rf_bipush C (v := (nI 6)) dX12_laysReached_3 rfl ?_
  refine rf_icmp_ge C 33 dX12_laysReached_5 (by decide) (fun _ => ?_) (fun _ => ?_)
  · refine rf_iconst C (v := (nI 0)) dX12_laysReached_33 rfl ?_
    refine rf_istore_n C (fun v5 => [(1, .int v5), (0, .ref ((gE Γ).2.1 148))]) dX12_laysReached_34 rfl (by decide) (fun _ => rfl) (fun v5 => ?_)
    refine rf_sub [1, 0] rfl ?_
    refine rf_loo2 (fun _ _ => True) (fun _ s7 => s7) (fun v6 s7 => [(0, .ref ((gE Γ).2.1 148)), (1, .int v6)]) (fun recrec8 hrec8 v6 s7 _ => ?_) n v5 s3 trivial
    refine rf_iload_n C dX12_laysReached_35 rfl 1 rfl ?_
    refine rf_bipush C (v := (nI 6)) dX12_laysReached_36 rfl ?_
    refine rf_icmp_ge C 119 dX12_laysReached_38 (by decide) (fun _ => ?_) (fun _ => ?_)
    · exact rf_vret C dX12_laysReached_119
    refine rf_iconst C (v := (nI 0)) dX12_laysReached_41 rfl ?_
    refine rf_istore_n C (fun v9 => [(2, .int v9), (0, .ref ((gE Γ).2.1 148)), (1, .int v6)]) dX12_laysReached_42 rfl (by decide) (fun _ => rfl) (fun v9 => ?_)
    refine rf_sub [1, 2, 0] rfl ?_
    refine rf_loo2 (fun _ _ => True) (fun _ s11 => s11) (fun v10 s11 => [(0, .ref ((gE Γ).2.1 148)), (1, .int v6), (2, .int v10)]) (fun recrec12 hrec12 v10 s11 _ => ?_) n v9 s7 trivial
    refine rf_iload_n C dX12_laysReached_43 rfl 2 rfl ?_
    refine rf_aload_n C dX12_laysReached_44 rfl 0 rfl ?_
    refine rf_callVi C (rmc := rmOf 0 0) [] (by decide) (mX12_many (gL Γ) s11) mfX12_many mvX12_many mlX12_94 rfl oX12 rfl rfl rfl (Nat.le_of_ble_eq_true rfl) ⟨Nat.le_of_ble_eq_true rfl, Nat.le_of_ble_eq_true rfl⟩ dX12_laysReached_45 (fun r14 s13 => ?_)
    refine rf_icmp_ge C 113 dX12_laysReached_48 (by decide) (fun _ => ?_) (fun _ => ?_)
    · refine rf_iinc C (fun v15 => [(1, .int v15), (0, .ref ((gE Γ).2.1 148)), (2, .int v10)]) dX12_laysReached_113 1 rfl rfl (by decide) (fun _ => rfl) (fun v15 => ?_)
      refine rf_goto C 35 dX12_laysReached_116 (by decide) ?_
      exact rf_sub [1, 0] rfl (hrec8 v15 s13 trivial)
    refine rf_iconst C (v := (nI 0)) dX12_laysReached_51 rfl ?_
    refine rf_istore_n C (fun v16 => [(3, .int v16), (0, .ref ((gE Γ).2.1 148)), (1, .int v6), (2, .int v10)]) dX12_laysReached_52 rfl (by decide) (fun _ => rfl) (fun v16 => ?_)
    refine rf_sub [1, 2, 3, 0] rfl ?_
    refine rf_loo2 (fun _ _ => True) (fun _ s18 => s18) (fun v17 s18 => [(0, .ref ((gE Γ).2.1 148)), (1, .int v6), (2, .int v10), (3, .int v17)]) (fun recrec19 hrec19 v17 s18 _ => ?_) n v16 s13 trivial
    refine rf_iload_n C dX12_laysReached_53 rfl 3 rfl ?_
    refine rf_aload_n C dX12_laysReached_54 rfl 0 rfl ?_
    refine rf_iload_n C dX12_laysReached_55 rfl 2 rfl ?_
    refine rf_callVi C (rmc := rmOf 0 0) [.int v10] (by decide) (mX12_size (gL Γ) v10 s18) mfX12_size mvX12_size mlX12_117 rfl oX12 rfl rfl rfl (Nat.le_of_ble_eq_true rfl) ⟨Nat.le_of_ble_eq_true rfl, Nat.le_of_ble_eq_true rfl⟩ dX12_laysReached_56 (fun r21 s20 => ?_)
    refine rf_jn1 (fun _ => True) (fun  s22 => s22) (fun s22 => [(0, .ref ((gE Γ).2.1 148)), (1, .int v6), (2, .int v10)]) (fun s22 => []) 107 (fun s22 _ => ?_) (fun j23 hj23 => ?_)
    · refine rf_iinc C (fun v24 => [(2, .int v24), (0, .ref ((gE Γ).2.1 148)), (1, .int v6)]) dX12_laysReached_107 2 rfl rfl (by decide) (fun _ => rfl) (fun v24 => ?_)
      refine rf_goto C 43 dX12_laysReached_110 (by decide) ?_
      exact rf_sub [1, 2, 0] rfl (hrec12 v24 s22 trivial)
    refine rf_icmp_ge C 107 dX12_laysReached_59 (by decide) (fun _ => ?_) (fun _ => ?_)
    · exact rf_sub [0, 1, 2] rfl (hj23 s20 trivial)
    refine rf_aload_n C dX12_laysReached_62 rfl 0 rfl ?_
    refine rf_get C (v := .ref ((gE Γ).2.1 155)) cfX12 flX12_33 (by decide) oX12 rfl dX12_laysReached_63 ?_
    refine rf_aload_n C dX12_laysReached_66 rfl 0 rfl ?_
    refine rf_iload_n C dX12_laysReached_67 rfl 2 rfl ?_
    refine rf_callVi C (rmc := rmOf 0 0) [.int v10] (by decide) (mX12_left (gL Γ) v10 s20) mfX12_left mvX12_left mlX12_102 rfl oX12 rfl rfl rfl (Nat.le_of_ble_eq_true rfl) ⟨Nat.le_of_ble_eq_true rfl, Nat.le_of_ble_eq_true rfl⟩ dX12_laysReached_68 (fun r26 s25 => ?_)
    refine rf_zald C ar155 dX12_laysReached_71 (fun v27 => ?_)
    refine rf_if_eq C 107 dX12_laysReached_72 (by decide) (fun _ => ?_) (fun _ => ?_)
    · exact rf_sub [0, 1, 2] rfl (hj23 s25 trivial)
    refine rf_aload_n C dX12_laysReached_75 rfl 0 rfl ?_
    refine rf_iload_n C dX12_laysReached_76 rfl 2 rfl ?_
    refine rf_iload_n C dX12_laysReached_77 rfl 3 rfl ?_
    refine rf_callVi C (rmc := rmOf 0 0) [.int v10, .int v17] (by decide) (mX12_at (gL Γ) v10 v17 s25) mfX12_at mvX12_at mlX12_109 rfl oX12 rfl rfl rfl (Nat.le_of_ble_eq_true rfl) ⟨Nat.le_of_ble_eq_true rfl, Nat.le_of_ble_eq_true rfl⟩ dX12_laysReached_78 (fun r29 s28 => ?_)
    refine rf_bipush C (v := (nI 10)) dX12_laysReached_81 rfl ?_
    refine rf_jn1 (fun _ => True) (fun  s30 => s30) (fun s30 => [(0, .ref ((gE Γ).2.1 148)), (1, .int v6), (2, .int v10), (3, .int v17)]) (fun s30 => []) 101 (fun s30 _ => ?_) (fun j31 hj31 => ?_)
    · refine rf_iinc C (fun v32 => [(3, .int v32), (0, .ref ((gE Γ).2.1 148)), (1, .int v6), (2, .int v10)]) dX12_laysReached_101 3 rfl rfl (by decide) (fun _ => rfl) (fun v32 => ?_)
      refine rf_goto C 53 dX12_laysReached_104 (by decide) ?_
      exact rf_sub [1, 2, 3, 0] rfl (hrec19 v32 s30 trivial)
    refine rf_icmp_lt C 101 dX12_laysReached_83 (by decide) (fun _ => ?_) (fun _ => ?_)
    · exact rf_sub [0, 1, 2, 3] rfl (hj31 s28 trivial)
    refine rf_aload_n C dX12_laysReached_86 rfl 0 rfl ?_
    refine rf_get C (v := .ref ((gE Γ).2.1 155)) cfX12 flX12_33 (by decide) oX12 rfl dX12_laysReached_87 ?_
    refine rf_aload_n C dX12_laysReached_90 rfl 0 rfl ?_
    refine rf_iload_n C dX12_laysReached_91 rfl 2 rfl ?_
    refine rf_iload_n C dX12_laysReached_92 rfl 3 rfl ?_
    refine rf_callVi C (rmc := rmOf 0 0) [.int v10, .int v17] (by decide) (mX12_at (gL Γ) v10 v17 s28) mfX12_at mvX12_at mlX12_109 rfl oX12 rfl rfl rfl (Nat.le_of_ble_eq_true rfl) ⟨Nat.le_of_ble_eq_true rfl, Nat.le_of_ble_eq_true rfl⟩ dX12_laysReached_93 (fun r34 s33 => ?_)
    refine rf_bipush C (v := (nI 10)) dX12_laysReached_96 rfl ?_
    refine rf_isub C dX12_laysReached_98 ?_
    refine rf_iconst C (v := (nI 1)) dX12_laysReached_99 rfl ?_
    refine rf_zast C ar155 dX12_laysReached_100 (fun s35 => ?_)
    exact rf_sub [0, 1, 2, 3] rfl (hj31 s35 trivial)
  refine rf_aload_n C dX12_laysReached_8 rfl 0 rfl ?_
  refine rf_get C (v := .ref ((gE Γ).2.1 155)) cfX12 flX12_33 (by decide) oX12 rfl dX12_laysReached_9 ?_
  refine rf_iload_n C dX12_laysReached_12 rfl 1 rfl ?_
  refine rf_iload_n C dX12_laysReached_13 rfl 1 rfl ?_
  refine rf_aload_n C dX12_laysReached_14 rfl 0 rfl ?_
  refine rf_callVi C (rmc := rmOf 0 0) [] (by decide) (mX12_start (gL Γ) s3) mfX12_start mvX12_start mlX12_124 rfl oX12 rfl rfl rfl (Nat.le_of_ble_eq_true rfl) ⟨Nat.le_of_ble_eq_true rfl, Nat.le_of_ble_eq_true rfl⟩ dX12_laysReached_15 (fun r37 s36 => ?_)
  refine rf_jn2 (fun _ _ => True) (fun _ s39 => s39) (fun v38 s39 => [(0, .ref ((gE Γ).2.1 148)), (1, .int v2)]) (fun v38 s39 => [.int v38, .int v2, .ref ((gE Γ).2.1 155)]) 26 (fun v38 s39 _ => ?_) (fun j40 hj40 => ?_)
  · refine rf_zast C ar155 dX12_laysReached_26 (fun s41 => ?_)
    refine rf_iinc C (fun v42 => [(1, .int v42), (0, .ref ((gE Γ).2.1 148))]) dX12_laysReached_27 1 rfl rfl (by decide) (fun _ => rfl) (fun v42 => ?_)
    refine rf_goto C 2 dX12_laysReached_30 (by decide) ?_
    exact rf_sub [1, 0] rfl (hrec4 v42 s41 trivial)
  refine rf_icmp_ne C 25 dX12_laysReached_18 (by decide) (fun _ => ?_) (fun _ => ?_)
  · refine rf_iconst C (v := (nI 0)) dX12_laysReached_25 rfl ?_
    exact rf_sub [0, 1] rfl (hj40 (nI 0) s36 trivial)
  refine rf_iconst C (v := (nI 1)) dX12_laysReached_21 rfl ?_
  refine rf_goto C 26 dX12_laysReached_22 (by decide) ?_
  exact rf_sub [0, 1] rfl (hj40 (nI 1) s36 trivial)

def fX12_closes (n : Nat) (a1 a1n : Nat) (s0 : PH) : Option (Unit × PH) :=
(lt (nI 0) fun (v1 : Int32) =>
(loo2 (fun (recrec4 : Int32 → PH → Option (Unit × PH)) (v2 : Int32) (s3 : PH) =>
(if (nI 6) ≤ v2 then
(some ((), s3))
else
(lt (nI 0) fun (v5 : Int32) =>
(loo2 (fun (recrec8 : Int32 → PH → Option (Unit × PH)) (v6 : Int32) (s7 : PH) =>
(if (nI 36) ≤ v6 then
(lt (v2 + (nI 1)) fun (v9 : Int32) =>
(recrec4 v9 s7))
else
(ra a1n v6 (s7.1 a1) fun (v10 : Int32) =>
(jn (fun (v11 : Int32) (s12 : PH) =>
(wa a1n v6 (lt (si s12 a1 v6.toNatClampNeg (nz v11)) fun (s14 : PH) =>
(lt (v6 + (nI 1)) fun (v15 : Int32) =>
(recrec8 v15 s14))))) (fun (j13 : Int32 → PH → Option (Unit × PH)) =>
(jn (fun (s16 : PH) =>
(j13 (nI 1) s16)) (fun (j17 : PH → Option (Unit × PH)) =>
(if v10 = 0 then
(ra a1n (((nI 6) * (v6 / (nI 6))) + v2) (s7.1 a1) fun (v18 : Int32) =>
(jn (fun (s19 : PH) =>
(j13 (nI 0) s19)) (fun (j20 : PH → Option (Unit × PH)) =>
(if v18 = 0 then
(j20 s7)
else
(ra a1n (((nI 6) * v2) + (v6 - v6 / (nI 6) * (nI 6))) (s7.1 a1) fun (v21 : Int32) =>
(if v21 = 0 then
(j20 s7)
else
(j17 s7)))))))
else
(j17 s7))))))))) n v5 s3)))) n v1 s0))
set_option maxRecDepth 20000 in
set_option maxHeartbeats 2000000 in
theorem mX12_closes (l : Launch) (n : Nat) (a1 a1n : Nat) (s0 : PH) (ha1 : isZ 174 a1 a1n) : Ctv 174 l yX12_closes cX12_closes 3 none (rmOf 0 0) (fun E => [.ref (E.2.1 a1)]) s0 (fX12_closes n a1 a1n s0) := by
  refine Ctv.of (by decide) rfl (lv := fun E => [(0, .ref (E.2.1 a1))]) (fun _ => Nat.le_of_ble_eq_true rfl) (fun _ => rfl) (fun Γ hΓ _ C => ?_)
  subst hΓ
  unfold fX12_closes
  refine rf_iconst C (v := (nI 0)) dX12_closes_0 rfl ?_
  refine rf_istore_n C (fun v1 => [(1, .int v1), (0, .ref ((gE Γ).2.1 a1))]) dX12_closes_1 rfl (by decide) (fun _ => rfl) (fun v1 => ?_)
  refine rf_sub [1, 0] rfl ?_
  refine rf_loo2 (fun _ _ => True) (fun _ s3 => s3) (fun v2 s3 => [(0, .ref ((gE Γ).2.1 a1)), (1, .int v2)]) (fun recrec4 hrec4 v2 s3 _ => ?_) n v1 s0 trivial
  refine rf_iload_n C dX12_closes_2 rfl 1 rfl ?_
  refine rf_bipush C (v := (nI 6)) dX12_closes_3 rfl ?_
  refine rf_icmp_ge C 70 dX12_closes_5 (by decide) (fun _ => ?_) (fun _ => ?_)
  · exact rf_vret C dX12_closes_70
  refine rf_iconst C (v := (nI 0)) dX12_closes_8 rfl ?_
  refine rf_istore_n C (fun v5 => [(2, .int v5), (0, .ref ((gE Γ).2.1 a1)), (1, .int v2)]) dX12_closes_9 rfl (by decide) (fun _ => rfl) (fun v5 => ?_)
  refine rf_sub [1, 2, 0] rfl ?_
  refine rf_loo2 (fun _ _ => True) (fun _ s7 => s7) (fun v6 s7 => [(0, .ref ((gE Γ).2.1 a1)), (1, .int v2), (2, .int v6)]) (fun recrec8 hrec8 v6 s7 _ => ?_) n v5 s3 trivial
  refine rf_iload_n C dX12_closes_10 rfl 2 rfl ?_
  refine rf_bipush C (v := (nI 36)) dX12_closes_11 rfl ?_
  refine rf_icmp_ge C 64 dX12_closes_13 (by decide) (fun _ => ?_) (fun _ => ?_)
  · refine rf_iinc C (fun v9 => [(1, .int v9), (0, .ref ((gE Γ).2.1 a1)), (2, .int v6)]) dX12_closes_64 1 rfl rfl (by decide) (fun _ => rfl) (fun v9 => ?_)
    refine rf_goto C 2 dX12_closes_67 (by decide) ?_
    exact rf_sub [1, 0] rfl (hrec4 v9 s7 trivial)
  refine rf_aload_n C dX12_closes_16 rfl 0 rfl ?_
  refine rf_iload_n C dX12_closes_17 rfl 2 rfl ?_
  refine rf_aload_n C dX12_closes_18 rfl 0 rfl ?_
  refine rf_iload_n C dX12_closes_19 rfl 2 rfl ?_
  refine rf_zald C ha1 dX12_closes_20 (fun v10 => ?_)
  refine rf_jn2 (fun _ _ => True) (fun _ s12 => s12) (fun v11 s12 => [(0, .ref ((gE Γ).2.1 a1)), (1, .int v2), (2, .int v6)]) (fun v11 s12 => [.int v11, .int v6, .ref ((gE Γ).2.1 a1)]) 57 (fun v11 s12 _ => ?_) (fun j13 hj13 => ?_)
  · refine rf_zast C ha1 dX12_closes_57 (fun s14 => ?_)
    refine rf_iinc C (fun v15 => [(2, .int v15), (0, .ref ((gE Γ).2.1 a1)), (1, .int v2)]) dX12_closes_58 2 rfl rfl (by decide) (fun _ => rfl) (fun v15 => ?_)
    refine rf_goto C 10 dX12_closes_61 (by decide) ?_
    exact rf_sub [1, 2, 0] rfl (hrec8 v15 s14 trivial)
  refine rf_jn1 (fun _ => True) (fun  s16 => s16) (fun s16 => [(0, .ref ((gE Γ).2.1 a1)), (1, .int v2), (2, .int v6)]) (fun s16 => [.int v6, .ref ((gE Γ).2.1 a1)]) 52 (fun s16 _ => ?_) (fun j17 hj17 => ?_)
  · refine rf_iconst C (v := (nI 1)) dX12_closes_52 rfl ?_
    refine rf_goto C 57 dX12_closes_53 (by decide) ?_
    exact rf_sub [0, 1, 2] rfl (hj13 (nI 1) s16 trivial)
  refine rf_if_ne C 52 dX12_closes_21 (by decide) (fun _ => ?_) (fun _ => ?_)
  · exact rf_sub [0, 1, 2] rfl (hj17 s7 trivial)
  refine rf_aload_n C dX12_closes_24 rfl 0 rfl ?_
  refine rf_bipush C (v := (nI 6)) dX12_closes_25 rfl ?_
  refine rf_iload_n C dX12_closes_27 rfl 2 rfl ?_
  refine rf_bipush C (v := (nI 6)) dX12_closes_28 rfl ?_
  refine rf_idiv C dX12_closes_30 (by decide) ?_
  refine rf_imul C dX12_closes_31 ?_
  refine rf_iload_n C dX12_closes_32 rfl 1 rfl ?_
  refine rf_iadd C dX12_closes_33 ?_
  refine rf_zald C ha1 dX12_closes_34 (fun v18 => ?_)
  refine rf_jn1 (fun _ => True) (fun  s19 => s19) (fun s19 => [(0, .ref ((gE Γ).2.1 a1)), (1, .int v2), (2, .int v6)]) (fun s19 => [.int v6, .ref ((gE Γ).2.1 a1)]) 56 (fun s19 _ => ?_) (fun j20 hj20 => ?_)
  · refine rf_iconst C (v := (nI 0)) dX12_closes_56 rfl ?_
    exact rf_sub [0, 1, 2] rfl (hj13 (nI 0) s19 trivial)
  refine rf_if_eq C 56 dX12_closes_35 (by decide) (fun _ => ?_) (fun _ => ?_)
  · exact rf_sub [0, 1, 2] rfl (hj20 s7 trivial)
  refine rf_aload_n C dX12_closes_38 rfl 0 rfl ?_
  refine rf_bipush C (v := (nI 6)) dX12_closes_39 rfl ?_
  refine rf_iload_n C dX12_closes_41 rfl 1 rfl ?_
  refine rf_imul C dX12_closes_42 ?_
  refine rf_iload_n C dX12_closes_43 rfl 2 rfl ?_
  refine rf_bipush C (v := (nI 6)) dX12_closes_44 rfl ?_
  refine rf_irem C dX12_closes_46 (by decide) ?_
  refine rf_iadd C dX12_closes_47 ?_
  refine rf_zald C ha1 dX12_closes_48 (fun v21 => ?_)
  refine rf_if_eq C 56 dX12_closes_49 (by decide) (fun _ => ?_) (fun _ => ?_)
  · exact rf_sub [0, 1, 2] rfl (hj20 s7 trivial)
  exact rf_sub [0, 1, 2] rfl (hj17 s7 trivial)

def fX12_laysTurns (n : Nat) (s0 : PH) : Option (Unit × PH) :=
(lt (nI 0) fun (v1 : Int32) =>
(loo2 (fun (recrec4 : Int32 → PH → Option (Unit × PH)) (v2 : Int32) (s3 : PH) =>
(if (nI 36) ≤ v2 then
(lt (nI 0) fun (v5 : Int32) =>
(loo2 (fun (recrec8 : Int32 → PH → Option (Unit × PH)) (v6 : Int32) (s7 : PH) =>
(bd (fX12_many s7) fun (r10 : Int32) (s9 : PH) =>
(if r10 ≤ v6 then
(bd (fX12_closes n 156 36 s9) fun _ (s11 : PH) =>
(bd (fX12_closes n 157 36 s11) fun _ (s12 : PH) =>
(some ((), s12))))
else
(lt (nI 0) fun (v13 : Int32) =>
(loo2 (fun (recrec16 : Int32 → PH → Option (Unit × PH)) (v14 : Int32) (s15 : PH) =>
(bd (fX12_size v6 s15) fun (r18 : Int32) (s17 : PH) =>
(if r18 ≤ v14 then
(lt (v6 + (nI 1)) fun (v19 : Int32) =>
(recrec8 v19 s17))
else
(bd (fX12_at v6 v14 s17) fun (r21 : Int32) (s20 : PH) =>
(jn (fun (s22 : PH) =>
(lt (v14 + (nI 1)) fun (v24 : Int32) =>
(recrec16 v24 s22))) (fun (j23 : PH → Option (Unit × PH)) =>
(if r21 < (nI 10) then
(j23 s20)
else
(bd (fX12_areEmpty n v6 (nI 0) v14 s20) fun (r26 : Int32) (s25 : PH) =>
(if r26 = 0 then
(j23 s25)
else
(bd (fX12_left v6 s25) fun (r28 : Int32) (s27 : PH) =>
(bd (fX12_at v6 v14 s27) fun (r30 : Int32) (s29 : PH) =>
(lt ((((nI 6) * r28) + r30) - (nI 10)) fun (v31 : Int32) =>
(wa 36 v31 (lt (si s29 156 v31.toNatClampNeg (nz (nI 1))) fun (s32 : PH) =>
(ra 36 v31 (s32.1 157) fun (v33 : Int32) =>
(jn (fun (v34 : Int32) (s35 : PH) =>
(wa 36 v31 (lt (si s35 157 v31.toNatClampNeg (nz v34)) fun (s37 : PH) =>
(j23 s37)))) (fun (j36 : Int32 → PH → Option (Unit × PH)) =>
(jn (fun (s38 : PH) =>
(j36 (nI 1) s38)) (fun (j39 : PH → Option (Unit × PH)) =>
(if v33 = 0 then
(bd (fX12_size v6 s32) fun (r41 : Int32) (s40 : PH) =>
(bd (fX12_areEmpty n v6 (v14 + (nI 1)) r41 s40) fun (r43 : Int32) (s42 : PH) =>
(if r43 = 0 then
(j36 (nI 0) s42)
else
(j39 s42))))
else
(j39 s32))))))))))))))))))))) n v13 s9))))) n v5 s3))
else
(wa 36 v2 (lt (si s3 156 v2.toNatClampNeg (nz (nI 0))) fun (s44 : PH) =>
(wa 36 v2 (lt (si s44 157 v2.toNatClampNeg (nz (nI 0))) fun (s45 : PH) =>
(lt (v2 + (nI 1)) fun (v46 : Int32) =>
(recrec4 v46 s45)))))))) n v1 s0))
set_option maxRecDepth 20000 in
set_option maxHeartbeats 2000000 in
theorem mX12_laysTurns (l : Launch) (n : Nat) (s0 : PH) : Ctv 174 l yX12_laysTurns cX12_laysTurns 4 none (rmOf 2 47) (fun E => [.ref (E.2.1 148)]) s0 (fX12_laysTurns n s0) := by
  refine Ctv.of (by decide) rfl (lv := fun E => [(0, .ref (E.2.1 148))]) (fun _ => Nat.le_of_ble_eq_true rfl) (fun _ => rfl) (fun Γ hΓ _ C => ?_)
  subst hΓ
  unfold fX12_laysTurns
  refine rf_iconst C (v := (nI 0)) dX12_laysTurns_0 rfl ?_
  refine rf_istore_n C (fun v1 => [(1, .int v1), (0, .ref ((gE Γ).2.1 148))]) dX12_laysTurns_1 rfl (by decide) (fun _ => rfl) (fun v1 => ?_)
  refine rf_sub [1, 0] rfl ?_
  refine rf_loo2 (fun _ _ => True) (fun _ s3 => s3) (fun v2 s3 => [(0, .ref ((gE Γ).2.1 148)), (1, .int v2)]) (fun recrec4 hrec4 v2 s3 _ => ?_) n v1 s0 trivial
  refine rf_iload_n C dX12_laysTurns_2 rfl 1 rfl ?_
  refine rf_bipush C (v := (nI 36)) dX12_laysTurns_3 rfl ?_
  refine rf_icmp_ge C 28 dX12_laysTurns_5 (by decide) (fun _ => ?_) (fun _ => ?_)
  · refine rf_iconst C (v := (nI 0)) dX12_laysTurns_28 rfl ?_
    refine rf_istore_n C (fun v5 => [(1, .int v5), (0, .ref ((gE Γ).2.1 148))]) dX12_laysTurns_29 rfl (by decide) (fun _ => rfl) (fun v5 => ?_)
    refine rf_sub [1, 0] rfl ?_
    refine rf_loo2 (fun _ _ => True) (fun _ s7 => s7) (fun v6 s7 => [(0, .ref ((gE Γ).2.1 148)), (1, .int v6)]) (fun recrec8 hrec8 v6 s7 _ => ?_) n v5 s3 trivial
    refine rf_iload_n C dX12_laysTurns_30 rfl 1 rfl ?_
    refine rf_aload_n C dX12_laysTurns_31 rfl 0 rfl ?_
    refine rf_callVi C (rmc := rmOf 0 0) [] (by decide) (mX12_many (gL Γ) s7) mfX12_many mvX12_many mlX12_94 rfl oX12 rfl rfl rfl (Nat.le_of_ble_eq_true rfl) ⟨Nat.le_of_ble_eq_true rfl, Nat.le_of_ble_eq_true rfl⟩ dX12_laysTurns_32 (fun r10 s9 => ?_)
    refine rf_icmp_ge C 144 dX12_laysTurns_35 (by decide) (fun _ => ?_) (fun _ => ?_)
    · refine rf_aload_n C dX12_laysTurns_144 rfl 0 rfl ?_
      refine rf_get C (v := .ref ((gE Γ).2.1 156)) cfX12 flX12_36 (by decide) oX12 rfl dX12_laysTurns_145 ?_
      refine rf_callSv C (rmc := rmOf 0 0) [.ref ((gE Γ).2.1 156)] (by decide) (mX12_closes (gL Γ) n 156 36 s9 ar156) mfX12_closes msX12_closes mlX12_127 rfl rfl rfl (Nat.le_of_ble_eq_true rfl) ⟨Nat.le_of_ble_eq_true rfl, Nat.le_of_ble_eq_true rfl⟩ dX12_laysTurns_148 (fun s11 => ?_)
      refine rf_aload_n C dX12_laysTurns_151 rfl 0 rfl ?_
      refine rf_get C (v := .ref ((gE Γ).2.1 157)) cfX12 flX12_39 (by decide) oX12 rfl dX12_laysTurns_152 ?_
      refine rf_callSv C (rmc := rmOf 0 0) [.ref ((gE Γ).2.1 157)] (by decide) (mX12_closes (gL Γ) n 157 36 s11 ar157) mfX12_closes msX12_closes mlX12_127 rfl rfl rfl (Nat.le_of_ble_eq_true rfl) ⟨Nat.le_of_ble_eq_true rfl, Nat.le_of_ble_eq_true rfl⟩ dX12_laysTurns_155 (fun s12 => ?_)
      exact rf_vret C dX12_laysTurns_158
    refine rf_iconst C (v := (nI 0)) dX12_laysTurns_38 rfl ?_
    refine rf_istore_n C (fun v13 => [(2, .int v13), (0, .ref ((gE Γ).2.1 148)), (1, .int v6)]) dX12_laysTurns_39 rfl (by decide) (fun _ => rfl) (fun v13 => ?_)
    refine rf_sub [1, 2, 0] rfl ?_
    refine rf_loo2 (fun _ _ => True) (fun _ s15 => s15) (fun v14 s15 => [(0, .ref ((gE Γ).2.1 148)), (1, .int v6), (2, .int v14)]) (fun recrec16 hrec16 v14 s15 _ => ?_) n v13 s9 trivial
    refine rf_iload_n C dX12_laysTurns_40 rfl 2 rfl ?_
    refine rf_aload_n C dX12_laysTurns_41 rfl 0 rfl ?_
    refine rf_iload_n C dX12_laysTurns_42 rfl 1 rfl ?_
    refine rf_callVi C (rmc := rmOf 0 0) [.int v6] (by decide) (mX12_size (gL Γ) v6 s15) mfX12_size mvX12_size mlX12_117 rfl oX12 rfl rfl rfl (Nat.le_of_ble_eq_true rfl) ⟨Nat.le_of_ble_eq_true rfl, Nat.le_of_ble_eq_true rfl⟩ dX12_laysTurns_43 (fun r18 s17 => ?_)
    refine rf_icmp_ge C 138 dX12_laysTurns_46 (by decide) (fun _ => ?_) (fun _ => ?_)
    · refine rf_iinc C (fun v19 => [(1, .int v19), (0, .ref ((gE Γ).2.1 148)), (2, .int v14)]) dX12_laysTurns_138 1 rfl rfl (by decide) (fun _ => rfl) (fun v19 => ?_)
      refine rf_goto C 30 dX12_laysTurns_141 (by decide) ?_
      exact rf_sub [1, 0] rfl (hrec8 v19 s17 trivial)
    refine rf_aload_n C dX12_laysTurns_49 rfl 0 rfl ?_
    refine rf_iload_n C dX12_laysTurns_50 rfl 1 rfl ?_
    refine rf_iload_n C dX12_laysTurns_51 rfl 2 rfl ?_
    refine rf_callVi C (rmc := rmOf 0 0) [.int v6, .int v14] (by decide) (mX12_at (gL Γ) v6 v14 s17) mfX12_at mvX12_at mlX12_109 rfl oX12 rfl rfl rfl (Nat.le_of_ble_eq_true rfl) ⟨Nat.le_of_ble_eq_true rfl, Nat.le_of_ble_eq_true rfl⟩ dX12_laysTurns_52 (fun r21 s20 => ?_)
    refine rf_bipush C (v := (nI 10)) dX12_laysTurns_55 rfl ?_
    refine rf_jn1 (fun _ => True) (fun  s22 => s22) (fun s22 => [(0, .ref ((gE Γ).2.1 148)), (1, .int v6), (2, .int v14)]) (fun s22 => []) 132 (fun s22 _ => ?_) (fun j23 hj23 => ?_)
    · refine rf_iinc C (fun v24 => [(2, .int v24), (0, .ref ((gE Γ).2.1 148)), (1, .int v6)]) dX12_laysTurns_132 2 rfl rfl (by decide) (fun _ => rfl) (fun v24 => ?_)
      refine rf_goto C 40 dX12_laysTurns_135 (by decide) ?_
      exact rf_sub [1, 2, 0] rfl (hrec16 v24 s22 trivial)
    refine rf_icmp_lt C 132 dX12_laysTurns_57 (by decide) (fun _ => ?_) (fun _ => ?_)
    · exact rf_sub [0, 1, 2] rfl (hj23 s20 trivial)
    refine rf_aload_n C dX12_laysTurns_60 rfl 0 rfl ?_
    refine rf_iload_n C dX12_laysTurns_61 rfl 1 rfl ?_
    refine rf_iconst C (v := (nI 0)) dX12_laysTurns_62 rfl ?_
    refine rf_iload_n C dX12_laysTurns_63 rfl 2 rfl ?_
    refine rf_callVi C (rmc := rmOf 1 22) [.int v6, .int (nI 0), .int v14] (by decide) (mX12_areEmpty (gL Γ) n v6 (nI 0) v14 s20) mfX12_areEmpty mvX12_areEmpty mlX12_120 rfl oX12 rfl rfl rfl (Nat.le_of_ble_eq_true rfl) ⟨Nat.le_of_ble_eq_true rfl, Nat.le_of_ble_eq_true rfl⟩ dX12_laysTurns_64 (fun r26 s25 => ?_)
    refine rf_if_eq C 132 dX12_laysTurns_67 (by decide) (fun _ => ?_) (fun _ => ?_)
    · exact rf_sub [0, 1, 2] rfl (hj23 s25 trivial)
    refine rf_bipush C (v := (nI 6)) dX12_laysTurns_70 rfl ?_
    refine rf_aload_n C dX12_laysTurns_72 rfl 0 rfl ?_
    refine rf_iload_n C dX12_laysTurns_73 rfl 1 rfl ?_
    refine rf_callVi C (rmc := rmOf 0 0) [.int v6] (by decide) (mX12_left (gL Γ) v6 s25) mfX12_left mvX12_left mlX12_102 rfl oX12 rfl rfl rfl (Nat.le_of_ble_eq_true rfl) ⟨Nat.le_of_ble_eq_true rfl, Nat.le_of_ble_eq_true rfl⟩ dX12_laysTurns_74 (fun r28 s27 => ?_)
    refine rf_imul C dX12_laysTurns_77 ?_
    refine rf_aload_n C dX12_laysTurns_78 rfl 0 rfl ?_
    refine rf_iload_n C dX12_laysTurns_79 rfl 1 rfl ?_
    refine rf_iload_n C dX12_laysTurns_80 rfl 2 rfl ?_
    refine rf_callVi C (rmc := rmOf 0 0) [.int v6, .int v14] (by decide) (mX12_at (gL Γ) v6 v14 s27) mfX12_at mvX12_at mlX12_109 rfl oX12 rfl rfl rfl (Nat.le_of_ble_eq_true rfl) ⟨Nat.le_of_ble_eq_true rfl, Nat.le_of_ble_eq_true rfl⟩ dX12_laysTurns_81 (fun r30 s29 => ?_)
    refine rf_iadd C dX12_laysTurns_84 ?_
    refine rf_bipush C (v := (nI 10)) dX12_laysTurns_85 rfl ?_
    refine rf_isub C dX12_laysTurns_87 ?_
    refine rf_istore_n C (fun v31 => [(3, .int v31), (0, .ref ((gE Γ).2.1 148)), (1, .int v6), (2, .int v14)]) dX12_laysTurns_88 rfl (by decide) (fun _ => rfl) (fun v31 => ?_)
    refine rf_aload_n C dX12_laysTurns_89 rfl 1 rfl ?_
    refine rf_get C (v := .ref ((gE Γ).2.1 156)) cfX12 flX12_36 (by decide) oX12 rfl dX12_laysTurns_90 ?_
    refine rf_iload_n C dX12_laysTurns_93 rfl 0 rfl ?_
    refine rf_iconst C (v := (nI 1)) dX12_laysTurns_94 rfl ?_
    refine rf_zast C ar156 dX12_laysTurns_95 (fun s32 => ?_)
    refine rf_aload_n C dX12_laysTurns_96 rfl 1 rfl ?_
    refine rf_get C (v := .ref ((gE Γ).2.1 157)) cfX12 flX12_39 (by decide) oX12 rfl dX12_laysTurns_97 ?_
    refine rf_iload_n C dX12_laysTurns_100 rfl 0 rfl ?_
    refine rf_aload_n C dX12_laysTurns_101 rfl 1 rfl ?_
    refine rf_get C (v := .ref ((gE Γ).2.1 157)) cfX12 flX12_39 (by decide) oX12 rfl dX12_laysTurns_102 ?_
    refine rf_iload_n C dX12_laysTurns_105 rfl 0 rfl ?_
    refine rf_zald C ar157 dX12_laysTurns_106 (fun v33 => ?_)
    refine rf_jn2 (fun _ _ => True) (fun _ s35 => s35) (fun v34 s35 => [(0, .ref ((gE Γ).2.1 148)), (1, .int v6), (2, .int v14)]) (fun v34 s35 => [.int v34, .int v31, .ref ((gE Γ).2.1 157)]) 131 (fun v34 s35 _ => ?_) (fun j36 hj36 => ?_)
    · refine rf_zast C ar157 dX12_laysTurns_131 (fun s37 => ?_)
      exact rf_sub [0, 1, 2] rfl (hj23 s37 trivial)
    refine rf_jn1 (fun _ => True) (fun  s38 => s38) (fun s38 => [(0, .ref ((gE Γ).2.1 148)), (1, .int v6), (2, .int v14)]) (fun s38 => [.int v31, .ref ((gE Γ).2.1 157)]) 126 (fun s38 _ => ?_) (fun j39 hj39 => ?_)
    · refine rf_iconst C (v := (nI 1)) dX12_laysTurns_126 rfl ?_
      refine rf_goto C 131 dX12_laysTurns_127 (by decide) ?_
      exact rf_sub [0, 1, 2] rfl (hj36 (nI 1) s38 trivial)
    refine rf_if_ne C 126 dX12_laysTurns_107 (by decide) (fun _ => ?_) (fun _ => ?_)
    · exact rf_sub [1, 2, 3] rfl (hj39 s32 trivial)
    refine rf_aload_n C dX12_laysTurns_110 rfl 1 rfl ?_
    refine rf_iload_n C dX12_laysTurns_111 rfl 2 rfl ?_
    refine rf_iload_n C dX12_laysTurns_112 rfl 3 rfl ?_
    refine rf_iconst C (v := (nI 1)) dX12_laysTurns_113 rfl ?_
    refine rf_iadd C dX12_laysTurns_114 ?_
    refine rf_aload_n C dX12_laysTurns_115 rfl 1 rfl ?_
    refine rf_iload_n C dX12_laysTurns_116 rfl 2 rfl ?_
    refine rf_callVi C (rmc := rmOf 0 0) [.int v6] (by decide) (mX12_size (gL Γ) v6 s32) mfX12_size mvX12_size mlX12_117 rfl oX12 rfl rfl rfl (Nat.le_of_ble_eq_true rfl) ⟨Nat.le_of_ble_eq_true rfl, Nat.le_of_ble_eq_true rfl⟩ dX12_laysTurns_117 (fun r41 s40 => ?_)
    refine rf_callVi C (rmc := rmOf 1 22) [.int v6, .int (v14 + (nI 1)), .int r41] (by decide) (mX12_areEmpty (gL Γ) n v6 (v14 + (nI 1)) r41 s40) mfX12_areEmpty mvX12_areEmpty mlX12_120 rfl oX12 rfl rfl rfl (Nat.le_of_ble_eq_true rfl) ⟨Nat.le_of_ble_eq_true rfl, Nat.le_of_ble_eq_true rfl⟩ dX12_laysTurns_120 (fun r43 s42 => ?_)
    refine rf_if_eq C 130 dX12_laysTurns_123 (by decide) (fun _ => ?_) (fun _ => ?_)
    · refine rf_iconst C (v := (nI 0)) dX12_laysTurns_130 rfl ?_
      exact rf_sub [1, 2, 3] rfl (hj36 (nI 0) s42 trivial)
    exact rf_sub [1, 2, 3] rfl (hj39 s42 trivial)
  refine rf_aload_n C dX12_laysTurns_8 rfl 0 rfl ?_
  refine rf_get C (v := .ref ((gE Γ).2.1 156)) cfX12 flX12_36 (by decide) oX12 rfl dX12_laysTurns_9 ?_
  refine rf_iload_n C dX12_laysTurns_12 rfl 1 rfl ?_
  refine rf_iconst C (v := (nI 0)) dX12_laysTurns_13 rfl ?_
  refine rf_zast C ar156 dX12_laysTurns_14 (fun s44 => ?_)
  refine rf_aload_n C dX12_laysTurns_15 rfl 0 rfl ?_
  refine rf_get C (v := .ref ((gE Γ).2.1 157)) cfX12 flX12_39 (by decide) oX12 rfl dX12_laysTurns_16 ?_
  refine rf_iload_n C dX12_laysTurns_19 rfl 1 rfl ?_
  refine rf_iconst C (v := (nI 0)) dX12_laysTurns_20 rfl ?_
  refine rf_zast C ar157 dX12_laysTurns_21 (fun s45 => ?_)
  refine rf_iinc C (fun v46 => [(1, .int v46), (0, .ref ((gE Γ).2.1 148))]) dX12_laysTurns_22 1 rfl rfl (by decide) (fun _ => rfl) (fun v46 => ?_)
  refine rf_goto C 2 dX12_laysTurns_25 (by decide) ?_
  exact rf_sub [1, 0] rfl (hrec4 v46 s45 trivial)

def fX12_begin (n : Nat) (s0 : PH) : Option (Unit × PH) :=
(lt (nI 0) fun (v1 : Int32) =>
(loo2 (fun (recrec4 : Int32 → PH → Option (Unit × PH)) (v2 : Int32) (s3 : PH) =>
(if (nI 216) ≤ v2 then
(some ((), s3))
else
(jn (fun (v5 : Int32) (s6 : PH) =>
(wa 216 v2 (lt (si s6 161 v2.toNatClampNeg (nz v5)) fun (s8 : PH) =>
(lt (v2 + (nI 1)) fun (v9 : Int32) =>
(recrec4 v9 s8))))) (fun (j7 : Int32 → PH → Option (Unit × PH)) =>
(if v2 = 0 then
(j7 (nI 1) s3)
else
(j7 (nI 0) s3)))))) n v1 s0))
set_option maxRecDepth 20000 in
set_option maxHeartbeats 2000000 in
theorem mX12_begin (l : Launch) (n : Nat) (s0 : PH) : Ctv 174 l yX12_begin cX12_begin 2 none (rmOf 0 0) (fun E => [.ref (E.2.1 148)]) s0 (fX12_begin n s0) := by
  refine Ctv.of (by decide) rfl (lv := fun E => [(0, .ref (E.2.1 148))]) (fun _ => Nat.le_of_ble_eq_true rfl) (fun _ => rfl) (fun Γ hΓ _ C => ?_)
  subst hΓ
  unfold fX12_begin
  refine rf_iconst C (v := (nI 0)) dX12_begin_0 rfl ?_
  refine rf_istore_n C (fun v1 => [(1, .int v1), (0, .ref ((gE Γ).2.1 148))]) dX12_begin_1 rfl (by decide) (fun _ => rfl) (fun v1 => ?_)
  refine rf_sub [1, 0] rfl ?_
  refine rf_loo2 (fun _ _ => True) (fun _ s3 => s3) (fun v2 s3 => [(0, .ref ((gE Γ).2.1 148)), (1, .int v2)]) (fun recrec4 hrec4 v2 s3 _ => ?_) n v1 s0 trivial
  refine rf_iload_n C dX12_begin_2 rfl 1 rfl ?_
  refine rf_sipush C (v := (nI 216)) dX12_begin_3 rfl ?_
  refine rf_icmp_ge C 30 dX12_begin_6 (by decide) (fun _ => ?_) (fun _ => ?_)
  · exact rf_vret C dX12_begin_30
  refine rf_aload_n C dX12_begin_9 rfl 0 rfl ?_
  refine rf_get C (v := .ref ((gE Γ).2.1 161)) cfX12 flX12_51 (by decide) oX12 rfl dX12_begin_10 ?_
  refine rf_iload_n C dX12_begin_13 rfl 1 rfl ?_
  refine rf_iload_n C dX12_begin_14 rfl 1 rfl ?_
  refine rf_jn2 (fun _ _ => True) (fun _ s6 => s6) (fun v5 s6 => [(0, .ref ((gE Γ).2.1 148)), (1, .int v2)]) (fun v5 s6 => [.int v5, .int v2, .ref ((gE Γ).2.1 161)]) 23 (fun v5 s6 _ => ?_) (fun j7 hj7 => ?_)
  · refine rf_zast C ar161 dX12_begin_23 (fun s8 => ?_)
    refine rf_iinc C (fun v9 => [(1, .int v9), (0, .ref ((gE Γ).2.1 148))]) dX12_begin_24 1 rfl rfl (by decide) (fun _ => rfl) (fun v9 => ?_)
    refine rf_goto C 2 dX12_begin_27 (by decide) ?_
    exact rf_sub [1, 0] rfl (hrec4 v9 s8 trivial)
  refine rf_if_ne C 22 dX12_begin_15 (by decide) (fun _ => ?_) (fun _ => ?_)
  · refine rf_iconst C (v := (nI 0)) dX12_begin_22 rfl ?_
    exact rf_sub [0, 1] rfl (hj7 (nI 0) s3 trivial)
  refine rf_iconst C (v := (nI 1)) dX12_begin_18 rfl ?_
  refine rf_goto C 23 dX12_begin_19 (by decide) ?_
  exact rf_sub [0, 1] rfl (hj7 (nI 1) s3 trivial)

def fX12_lettersOf (a1 : Int32) (s0 : PH) : Option (Int32 × PH) :=
(if a1 = 0 then
(some ((nI 0), s0))
else
(if (nI 6) ≤ a1 then
(if (nI 36) ≤ a1 then
(some ((nI 3), s0))
else
(some ((nI 2), s0)))
else
(some ((nI 1), s0))))
set_option maxRecDepth 20000 in
set_option maxHeartbeats 2000000 in
theorem mX12_lettersOf (l : Launch) (a1 : Int32) (s0 : PH) : Cti 174 l yX12_lettersOf cX12_lettersOf 1 (some .int) (rmOf 0 0) (fun E => [.int a1]) s0 (fX12_lettersOf a1 s0) := by
  refine Cti.of (by decide) rfl (lv := fun E => [(0, .int a1)]) (fun _ => Nat.le_of_ble_eq_true rfl) (fun _ => rfl) (fun Γ hΓ _ C => ?_)
  subst hΓ
  unfold fX12_lettersOf
  refine rf_iload_n C dX12_lettersOf_0 rfl 0 rfl ?_
  refine rf_if_ne C 8 dX12_lettersOf_1 (by decide) (fun _ => ?_) (fun _ => ?_)
  · refine rf_iload_n C dX12_lettersOf_8 rfl 0 rfl ?_
    refine rf_bipush C (v := (nI 6)) dX12_lettersOf_9 rfl ?_
    refine rf_icmp_ge C 18 dX12_lettersOf_11 (by decide) (fun _ => ?_) (fun _ => ?_)
    · refine rf_iload_n C dX12_lettersOf_18 rfl 0 rfl ?_
      refine rf_bipush C (v := (nI 36)) dX12_lettersOf_19 rfl ?_
      refine rf_icmp_ge C 28 dX12_lettersOf_21 (by decide) (fun _ => ?_) (fun _ => ?_)
      · refine rf_iconst C (v := (nI 3)) dX12_lettersOf_28 rfl ?_
        exact rf_iret C dX12_lettersOf_29
      refine rf_iconst C (v := (nI 2)) dX12_lettersOf_24 rfl ?_
      refine rf_goto C 29 dX12_lettersOf_25 (by decide) ?_
      exact rf_iret C dX12_lettersOf_29
    refine rf_iconst C (v := (nI 1)) dX12_lettersOf_14 rfl ?_
    refine rf_goto C 29 dX12_lettersOf_15 (by decide) ?_
    exact rf_iret C dX12_lettersOf_29
  refine rf_iconst C (v := (nI 0)) dX12_lettersOf_4 rfl ?_
  refine rf_goto C 29 dX12_lettersOf_5 (by decide) ?_
  exact rf_iret C dX12_lettersOf_29

def fX12_power (a1 : Int32) (s0 : PH) : Option (Int32 × PH) :=
(if a1 = 0 then
(some ((nI 1), s0))
else
(if a1 = (nI 1) then
(some ((nI 6), s0))
else
(if a1 = (nI 2) then
(some ((nI 36), s0))
else
(some ((nI 216), s0)))))
set_option maxRecDepth 20000 in
set_option maxHeartbeats 2000000 in
theorem mX12_power (l : Launch) (a1 : Int32) (s0 : PH) : Cti 174 l yX12_power cX12_power 1 (some .int) (rmOf 0 0) (fun E => [.int a1]) s0 (fX12_power a1 s0) := by
  refine Cti.of (by decide) rfl (lv := fun E => [(0, .int a1)]) (fun _ => Nat.le_of_ble_eq_true rfl) (fun _ => rfl) (fun Γ hΓ _ C => ?_)
  subst hΓ
  unfold fX12_power
  refine rf_iload_n C dX12_power_0 rfl 0 rfl ?_
  refine rf_if_ne C 8 dX12_power_1 (by decide) (fun _ => ?_) (fun _ => ?_)
  · refine rf_iload_n C dX12_power_8 rfl 0 rfl ?_
    refine rf_iconst C (v := (nI 1)) dX12_power_9 rfl ?_
    refine rf_icmp_ne C 18 dX12_power_10 (by decide) (fun _ => ?_) (fun _ => ?_)
    · refine rf_iload_n C dX12_power_18 rfl 0 rfl ?_
      refine rf_iconst C (v := (nI 2)) dX12_power_19 rfl ?_
      refine rf_icmp_ne C 28 dX12_power_20 (by decide) (fun _ => ?_) (fun _ => ?_)
      · refine rf_sipush C (v := (nI 216)) dX12_power_28 rfl ?_
        exact rf_iret C dX12_power_31
      refine rf_bipush C (v := (nI 36)) dX12_power_23 rfl ?_
      refine rf_goto C 31 dX12_power_25 (by decide) ?_
      exact rf_iret C dX12_power_31
    refine rf_bipush C (v := (nI 6)) dX12_power_13 rfl ?_
    refine rf_goto C 31 dX12_power_15 (by decide) ?_
    exact rf_iret C dX12_power_31
  refine rf_iconst C (v := (nI 1)) dX12_power_4 rfl ?_
  refine rf_goto C 31 dX12_power_5 (by decide) ?_
  exact rf_iret C dX12_power_31

def fX12_cut (a1 : Int32) (a2 : Int32) (s0 : PH) : Option (Int32 × PH) :=
(bd (fX12_lettersOf a1 s0) fun (r2 : Int32) (s1 : PH) =>
(lt r2 fun (v3 : Int32) =>
(if a2 < v3 then
(bd (fX12_power (v3 - a2) s1) fun (r5 : Int32) (s4 : PH) =>
(if r5 = 0 then none else
(some ((a1 / r5), s4))))
else
(some (a1, s1)))))
set_option maxRecDepth 20000 in
set_option maxHeartbeats 2000000 in
theorem mX12_cut (l : Launch) (a1 : Int32) (a2 : Int32) (s0 : PH) : Cti 174 l yX12_cut cX12_cut 3 (some .int) (rmOf 1 20) (fun E => [.int a1, .int a2]) s0 (fX12_cut a1 a2 s0) := by
  refine Cti.of (by decide) rfl (lv := fun E => [(0, .int a1), (1, .int a2)]) (fun _ => Nat.le_of_ble_eq_true rfl) (fun _ => rfl) (fun Γ hΓ _ C => ?_)
  subst hΓ
  unfold fX12_cut
  refine rf_iload_n C dX12_cut_0 rfl 0 rfl ?_
  refine rf_callSi C (rmc := rmOf 0 0) [.int a1] (by decide) (mX12_lettersOf (gL Γ) a1 s0) mfX12_lettersOf msX12_lettersOf mlX12_131 rfl rfl rfl (Nat.le_of_ble_eq_true rfl) ⟨Nat.le_of_ble_eq_true rfl, Nat.le_of_ble_eq_true rfl⟩ dX12_cut_1 (fun r2 s1 => ?_)
  refine rf_istore_n C (fun v3 => [(2, .int v3), (0, .int a1), (1, .int a2)]) dX12_cut_4 rfl (by decide) (fun _ => rfl) (fun v3 => ?_)
  refine rf_iload_n C dX12_cut_5 rfl 0 rfl ?_
  refine rf_iload_n C dX12_cut_6 rfl 2 rfl ?_
  refine rf_icmp_gt C 14 dX12_cut_7 (by decide) (fun _ => ?_) (fun _ => ?_)
  · refine rf_iload_n C dX12_cut_14 rfl 1 rfl ?_
    refine rf_iload_n C dX12_cut_15 rfl 0 rfl ?_
    refine rf_iload_n C dX12_cut_16 rfl 2 rfl ?_
    refine rf_isub C dX12_cut_17 ?_
    refine rf_callSi C (rmc := rmOf 0 0) [.int (v3 - a2)] (by decide) (mX12_power (gL Γ) (v3 - a2) s1) mfX12_power msX12_power mlX12_134 rfl rfl rfl (Nat.le_of_ble_eq_true rfl) ⟨Nat.le_of_ble_eq_true rfl, Nat.le_of_ble_eq_true rfl⟩ dX12_cut_18 (fun r5 s4 => ?_)
    refine rf_div0 (fun hz6 => ?_)
    refine rf_idiv C dX12_cut_21 hz6 ?_
    exact rf_iret C dX12_cut_22
  refine rf_iload_n C dX12_cut_10 rfl 1 rfl ?_
  refine rf_goto C 22 dX12_cut_11 (by decide) ?_
  exact rf_iret C dX12_cut_22

def fX12_joined (a1 : Int32) (a2 : Int32) (s0 : PH) : Option (Int32 × PH) :=
(bd (fX12_lettersOf a1 s0) fun (r2 : Int32) (s1 : PH) =>
(lt ((nI 3) - r2) fun (v3 : Int32) =>
(bd (fX12_cut a2 v3 s1) fun (r5 : Int32) (s4 : PH) =>
(lt r5 fun (v6 : Int32) =>
(bd (fX12_lettersOf v6 s4) fun (r8 : Int32) (s7 : PH) =>
(bd (fX12_power r8 s7) fun (r10 : Int32) (s9 : PH) =>
(some (((a1 * r10) + v6), s9))))))))
set_option maxRecDepth 20000 in
set_option maxHeartbeats 2000000 in
theorem mX12_joined (l : Launch) (a1 : Int32) (a2 : Int32) (s0 : PH) : Cti 174 l yX12_joined cX12_joined 4 (some .int) (rmOf 2 42) (fun E => [.int a1, .int a2]) s0 (fX12_joined a1 a2 s0) := by
  refine Cti.of (by decide) rfl (lv := fun E => [(0, .int a1), (1, .int a2)]) (fun _ => Nat.le_of_ble_eq_true rfl) (fun _ => rfl) (fun Γ hΓ _ C => ?_)
  subst hΓ
  unfold fX12_joined
  refine rf_iconst C (v := (nI 3)) dX12_joined_0 rfl ?_
  refine rf_iload_n C dX12_joined_1 rfl 0 rfl ?_
  refine rf_callSi C (rmc := rmOf 0 0) [.int a1] (by decide) (mX12_lettersOf (gL Γ) a1 s0) mfX12_lettersOf msX12_lettersOf mlX12_131 rfl rfl rfl (Nat.le_of_ble_eq_true rfl) ⟨Nat.le_of_ble_eq_true rfl, Nat.le_of_ble_eq_true rfl⟩ dX12_joined_2 (fun r2 s1 => ?_)
  refine rf_isub C dX12_joined_5 ?_
  refine rf_istore_n C (fun v3 => [(2, .int v3), (0, .int a1), (1, .int a2)]) dX12_joined_6 rfl (by decide) (fun _ => rfl) (fun v3 => ?_)
  refine rf_iload_n C dX12_joined_7 rfl 2 rfl ?_
  refine rf_iload_n C dX12_joined_8 rfl 0 rfl ?_
  refine rf_callSi C (rmc := rmOf 1 20) [.int a2, .int v3] (by decide) (mX12_cut (gL Γ) a2 v3 s1) mfX12_cut msX12_cut mlX12_137 rfl rfl rfl (Nat.le_of_ble_eq_true rfl) ⟨Nat.le_of_ble_eq_true rfl, Nat.le_of_ble_eq_true rfl⟩ dX12_joined_9 (fun r5 s4 => ?_)
  refine rf_istore_n C (fun v6 => [(3, .int v6), (2, .int v3), (0, .int a1), (1, .int a2)]) dX12_joined_12 rfl (by decide) (fun _ => rfl) (fun v6 => ?_)
  refine rf_iload_n C dX12_joined_13 rfl 2 rfl ?_
  refine rf_iload_n C dX12_joined_14 rfl 0 rfl ?_
  refine rf_callSi C (rmc := rmOf 0 0) [.int v6] (by decide) (mX12_lettersOf (gL Γ) v6 s4) mfX12_lettersOf msX12_lettersOf mlX12_131 rfl rfl rfl (Nat.le_of_ble_eq_true rfl) ⟨Nat.le_of_ble_eq_true rfl, Nat.le_of_ble_eq_true rfl⟩ dX12_joined_15 (fun r8 s7 => ?_)
  refine rf_callSi C (rmc := rmOf 0 0) [.int r8] (by decide) (mX12_power (gL Γ) r8 s7) mfX12_power msX12_power mlX12_134 rfl rfl rfl (Nat.le_of_ble_eq_true rfl) ⟨Nat.le_of_ble_eq_true rfl, Nat.le_of_ble_eq_true rfl⟩ dX12_joined_18 (fun r10 s9 => ?_)
  refine rf_imul C dX12_joined_21 ?_
  refine rf_iload_n C dX12_joined_22 rfl 0 rfl ?_
  refine rf_iadd C dX12_joined_23 ?_
  exact rf_iret C dX12_joined_24

def fX12_joins (n : Nat) (a1 a1n : Nat) (a2 : Int32) (s0 : PH) : Option (Unit × PH) :=
(lt (nI 0) fun (v1 : Int32) =>
(lt (nI 0) fun (v2 : Int32) =>
(loo3 (fun (recrec6 : Int32 → Int32 → PH → Option (Unit × PH)) (v3 : Int32) (v4 : Int32) (s5 : PH) =>
(if (nI 216) ≤ v4 then
(lt (nI 0) fun (v7 : Int32) =>
(loo2 (fun (recrec10 : Int32 → PH → Option (Unit × PH)) (v8 : Int32) (s9 : PH) =>
(if (nI 216) ≤ v8 then
(lt (nI 0) fun (v11 : Int32) =>
(loo2 (fun (recrec14 : Int32 → PH → Option (Unit × PH)) (v12 : Int32) (s13 : PH) =>
(if (nI 216) ≤ v12 then
(some ((), s13))
else
(ra 216 v12 (s13.1 162) fun (v15 : Int32) =>
(wa 216 v12 (lt (si s13 161 v12.toNatClampNeg (nz v15)) fun (s16 : PH) =>
(lt (v12 + (nI 1)) fun (v17 : Int32) =>
(recrec14 v17 s16))))))) n v11 s9))
else
(ra 216 v8 (s9.1 161) fun (v18 : Int32) =>
(jn (fun (s19 : PH) =>
(lt (v8 + (nI 1)) fun (v21 : Int32) =>
(recrec10 v21 s19))) (fun (j20 : PH → Option (Unit × PH)) =>
(jn (fun (s22 : PH) =>
(ra 216 v8 (s22.1 161) fun (v24 : Int32) =>
(if v24 = 0 then
(j20 s22)
else
(lt (nI 0) fun (v25 : Int32) =>
(loo2 (fun (recrec28 : Int32 → PH → Option (Unit × PH)) (v26 : Int32) (s27 : PH) =>
(if (nI 216) ≤ v26 then
(j20 s27)
else
(ra a1n (a2 + v26) (s27.1 a1) fun (v29 : Int32) =>
(jn (fun (s30 : PH) =>
(lt (v26 + (nI 1)) fun (v32 : Int32) =>
(recrec28 v32 s30))) (fun (j31 : PH → Option (Unit × PH)) =>
(if v29 = 0 then
(j31 s27)
else
(bd (fX12_joined v8 v26 s27) fun (r34 : Int32) (s33 : PH) =>
(wa 216 r34 (lt (si s33 162 r34.toNatClampNeg (nz (nI 1))) fun (s35 : PH) =>
(j31 s35)))))))))) n v25 s22))))) (fun (j23 : PH → Option (Unit × PH)) =>
(if v18 = 0 then
(j23 s9)
else
(bd (fX12_lettersOf v8 s9) fun (r37 : Int32) (s36 : PH) =>
(if r37 = (nI 3) then
(ra 216 v8 (s36.1 162) fun (v38 : Int32) =>
(jn (fun (v39 : Int32) (s40 : PH) =>
(wa 216 v8 (lt (si s40 162 v8.toNatClampNeg (nz v39)) fun (s42 : PH) =>
(j20 s42)))) (fun (j41 : Int32 → PH → Option (Unit × PH)) =>
(jn (fun (s43 : PH) =>
(j41 (nI 1) s43)) (fun (j44 : PH → Option (Unit × PH)) =>
(if v38 = 0 then
(if v3 = 0 then
(j41 (nI 0) s36)
else
(j44 s36))
else
(j44 s36)))))))
else
(j23 s36))))))))))) n v7 s5))
else
(wa 216 v4 (lt (si s5 162 v4.toNatClampNeg (nz (nI 0))) fun (s45 : PH) =>
(jn (fun (v46 : Int32) (s47 : PH) =>
(lt v46 fun (v49 : Int32) =>
(lt (v4 + (nI 1)) fun (v50 : Int32) =>
(recrec6 v49 v50 s47)))) (fun (j48 : Int32 → PH → Option (Unit × PH)) =>
(jn (fun (s51 : PH) =>
(j48 (nI 1) s51)) (fun (j52 : PH → Option (Unit × PH)) =>
(if v3 = 0 then
(ra a1n (a2 + v4) (s45.1 a1) fun (v53 : Int32) =>
(if v53 = 0 then
(j48 (nI 0) s45)
else
(j52 s45)))
else
(j52 s45)))))))))) n v1 v2 s0)))
set_option maxRecDepth 20000 in
set_option maxHeartbeats 2000000 in
theorem mX12_joins (l : Launch) (n : Nat) (a1 a1n : Nat) (a2 : Int32) (s0 : PH) (ha1 : isZ 174 a1 a1n) : Ctv 174 l yX12_joins cX12_joins 6 none (rmOf 3 65) (fun E => [.ref (E.2.1 148), .ref (E.2.1 a1), .int a2]) s0 (fX12_joins n a1 a1n a2 s0) := by
  refine Ctv.of (by decide) rfl (lv := fun E => [(0, .ref (E.2.1 148)), (1, .ref (E.2.1 a1)), (2, .int a2)]) (fun _ => Nat.le_of_ble_eq_true rfl) (fun _ => rfl) (fun Γ hΓ _ C => ?_)
  subst hΓ
  unfold fX12_joins
  refine rf_iconst C (v := (nI 0)) dX12_joins_0 rfl ?_
  refine rf_istore_n C (fun v1 => [(3, .int v1), (0, .ref ((gE Γ).2.1 148)), (1, .ref ((gE Γ).2.1 a1)), (2, .int a2)]) dX12_joins_1 rfl (by decide) (fun _ => rfl) (fun v1 => ?_)
  refine rf_iconst C (v := (nI 0)) dX12_joins_2 rfl ?_
  refine rf_istore C (fun v2 => [(4, .int v2), (3, .int v1), (0, .ref ((gE Γ).2.1 148)), (1, .ref ((gE Γ).2.1 a1)), (2, .int a2)]) dX12_joins_3 (by decide) (fun _ => rfl) (fun v2 => ?_)
  refine rf_sub [2, 3, 4, 1, 0] rfl ?_
  refine rf_loo3 (fun _ _ _ => True) (fun _ _ s5 => s5) (fun v3 v4 s5 => [(0, .ref ((gE Γ).2.1 148)), (1, .ref ((gE Γ).2.1 a1)), (2, .int a2), (3, .int v3), (4, .int v4)]) (fun recrec6 hrec6 v3 v4 s5 _ => ?_) n v1 v2 s0 trivial
  refine rf_iload C dX12_joins_5 4 rfl ?_
  refine rf_sipush C (v := (nI 216)) dX12_joins_7 rfl ?_
  refine rf_icmp_ge C 46 dX12_joins_10 (by decide) (fun _ => ?_) (fun _ => ?_)
  · refine rf_iconst C (v := (nI 0)) dX12_joins_46 rfl ?_
    refine rf_istore C (fun v7 => [(4, .int v7), (0, .ref ((gE Γ).2.1 148)), (1, .ref ((gE Γ).2.1 a1)), (2, .int a2), (3, .int v3)]) dX12_joins_47 (by decide) (fun _ => rfl) (fun v7 => ?_)
    refine rf_sub [1, 2, 3, 4, 0] rfl ?_
    refine rf_loo2 (fun _ _ => True) (fun _ s9 => s9) (fun v8 s9 => [(0, .ref ((gE Γ).2.1 148)), (1, .ref ((gE Γ).2.1 a1)), (2, .int a2), (3, .int v3), (4, .int v8)]) (fun recrec10 hrec10 v8 s9 _ => ?_) n v7 s5 trivial
    refine rf_iload C dX12_joins_49 4 rfl ?_
    refine rf_sipush C (v := (nI 216)) dX12_joins_51 rfl ?_
    refine rf_icmp_ge C 160 dX12_joins_54 (by decide) (fun _ => ?_) (fun _ => ?_)
    · refine rf_iconst C (v := (nI 0)) dX12_joins_160 rfl ?_
      refine rf_istore C (fun v11 => [(4, .int v11), (0, .ref ((gE Γ).2.1 148)), (1, .ref ((gE Γ).2.1 a1)), (2, .int a2), (3, .int v3)]) dX12_joins_161 (by decide) (fun _ => rfl) (fun v11 => ?_)
      refine rf_sub [1, 0] rfl ?_
      refine rf_loo2 (fun _ _ => True) (fun _ s13 => s13) (fun v12 s13 => [(0, .ref ((gE Γ).2.1 148)), (4, .int v12)]) (fun recrec14 hrec14 v12 s13 _ => ?_) n v11 s9 trivial
      refine rf_iload C dX12_joins_163 1 rfl ?_
      refine rf_sipush C (v := (nI 216)) dX12_joins_165 rfl ?_
      refine rf_icmp_ge C 191 dX12_joins_168 (by decide) (fun _ => ?_) (fun _ => ?_)
      · exact rf_vret C dX12_joins_191
      refine rf_aload_n C dX12_joins_171 rfl 0 rfl ?_
      refine rf_get C (v := .ref ((gE Γ).2.1 161)) cfX12 flX12_51 (by decide) oX12 rfl dX12_joins_172 ?_
      refine rf_iload C dX12_joins_175 1 rfl ?_
      refine rf_aload_n C dX12_joins_177 rfl 0 rfl ?_
      refine rf_get C (v := .ref ((gE Γ).2.1 162)) cfX12 flX12_54 (by decide) oX12 rfl dX12_joins_178 ?_
      refine rf_iload C dX12_joins_181 1 rfl ?_
      refine rf_zald C ar162 dX12_joins_183 (fun v15 => ?_)
      refine rf_zast C ar161 dX12_joins_184 (fun s16 => ?_)
      refine rf_iinc C (fun v17 => [(4, .int v17), (0, .ref ((gE Γ).2.1 148))]) dX12_joins_185 1 rfl rfl (by decide) (fun _ => rfl) (fun v17 => ?_)
      refine rf_goto C 163 dX12_joins_188 (by decide) ?_
      exact rf_sub [1, 0] rfl (hrec14 v17 s16 trivial)
    refine rf_aload_n C dX12_joins_57 rfl 0 rfl ?_
    refine rf_get C (v := .ref ((gE Γ).2.1 161)) cfX12 flX12_51 (by decide) oX12 rfl dX12_joins_58 ?_
    refine rf_iload C dX12_joins_61 4 rfl ?_
    refine rf_zald C ar161 dX12_joins_63 (fun v18 => ?_)
    refine rf_jn1 (fun _ => True) (fun  s19 => s19) (fun s19 => [(0, .ref ((gE Γ).2.1 148)), (1, .ref ((gE Γ).2.1 a1)), (2, .int a2), (3, .int v3), (4, .int v8)]) (fun s19 => []) 154 (fun s19 _ => ?_) (fun j20 hj20 => ?_)
    · refine rf_iinc C (fun v21 => [(4, .int v21), (0, .ref ((gE Γ).2.1 148)), (1, .ref ((gE Γ).2.1 a1)), (2, .int a2), (3, .int v3)]) dX12_joins_154 4 rfl rfl (by decide) (fun _ => rfl) (fun v21 => ?_)
      refine rf_goto C 49 dX12_joins_157 (by decide) ?_
      exact rf_sub [1, 2, 3, 4, 0] rfl (hrec10 v21 s19 trivial)
    refine rf_jn1 (fun _ => True) (fun  s22 => s22) (fun s22 => [(0, .ref ((gE Γ).2.1 148)), (1, .ref ((gE Γ).2.1 a1)), (2, .int a2), (3, .int v3), (4, .int v8)]) (fun s22 => []) 105 (fun s22 _ => ?_) (fun j23 hj23 => ?_)
    · refine rf_aload_n C dX12_joins_105 rfl 0 rfl ?_
      refine rf_get C (v := .ref ((gE Γ).2.1 161)) cfX12 flX12_51 (by decide) oX12 rfl dX12_joins_106 ?_
      refine rf_iload C dX12_joins_109 4 rfl ?_
      refine rf_zald C ar161 dX12_joins_111 (fun v24 => ?_)
      refine rf_if_eq C 154 dX12_joins_112 (by decide) (fun _ => ?_) (fun _ => ?_)
      · exact rf_sub [0, 1, 2, 3, 4] rfl (hj20 s22 trivial)
      refine rf_iconst C (v := (nI 0)) dX12_joins_115 rfl ?_
      refine rf_istore C (fun v25 => [(5, .int v25), (0, .ref ((gE Γ).2.1 148)), (1, .ref ((gE Γ).2.1 a1)), (2, .int a2), (3, .int v3), (4, .int v8)]) dX12_joins_116 (by decide) (fun _ => rfl) (fun v25 => ?_)
      refine rf_sub [1, 2, 3, 4, 5, 0] rfl ?_
      refine rf_loo2 (fun _ _ => True) (fun _ s27 => s27) (fun v26 s27 => [(0, .ref ((gE Γ).2.1 148)), (1, .ref ((gE Γ).2.1 a1)), (2, .int a2), (3, .int v3), (4, .int v8), (5, .int v26)]) (fun recrec28 hrec28 v26 s27 _ => ?_) n v25 s22 trivial
      refine rf_iload C dX12_joins_118 5 rfl ?_
      refine rf_sipush C (v := (nI 216)) dX12_joins_120 rfl ?_
      refine rf_icmp_ge C 154 dX12_joins_123 (by decide) (fun _ => ?_) (fun _ => ?_)
      · exact rf_sub [0, 1, 2, 3, 4] rfl (hj20 s27 trivial)
      refine rf_aload_n C dX12_joins_126 rfl 1 rfl ?_
      refine rf_iload_n C dX12_joins_127 rfl 2 rfl ?_
      refine rf_iload C dX12_joins_128 5 rfl ?_
      refine rf_iadd C dX12_joins_130 ?_
      refine rf_zald C ha1 dX12_joins_131 (fun v29 => ?_)
      refine rf_jn1 (fun _ => True) (fun  s30 => s30) (fun s30 => [(0, .ref ((gE Γ).2.1 148)), (1, .ref ((gE Γ).2.1 a1)), (2, .int a2), (3, .int v3), (4, .int v8), (5, .int v26)]) (fun s30 => []) 148 (fun s30 _ => ?_) (fun j31 hj31 => ?_)
      · refine rf_iinc C (fun v32 => [(5, .int v32), (0, .ref ((gE Γ).2.1 148)), (1, .ref ((gE Γ).2.1 a1)), (2, .int a2), (3, .int v3), (4, .int v8)]) dX12_joins_148 5 rfl rfl (by decide) (fun _ => rfl) (fun v32 => ?_)
        refine rf_goto C 118 dX12_joins_151 (by decide) ?_
        exact rf_sub [1, 2, 3, 4, 5, 0] rfl (hrec28 v32 s30 trivial)
      refine rf_if_eq C 148 dX12_joins_132 (by decide) (fun _ => ?_) (fun _ => ?_)
      · exact rf_sub [0, 1, 2, 3, 4, 5] rfl (hj31 s27 trivial)
      refine rf_aload_n C dX12_joins_135 rfl 0 rfl ?_
      refine rf_get C (v := .ref ((gE Γ).2.1 162)) cfX12 flX12_54 (by decide) oX12 rfl dX12_joins_136 ?_
      refine rf_iload C dX12_joins_139 4 rfl ?_
      refine rf_iload C dX12_joins_141 5 rfl ?_
      refine rf_callSi C (rmc := rmOf 2 42) [.int v8, .int v26] (by decide) (mX12_joined (gL Γ) v8 v26 s27) mfX12_joined msX12_joined mlX12_140 rfl rfl rfl (Nat.le_of_ble_eq_true rfl) ⟨Nat.le_of_ble_eq_true rfl, Nat.le_of_ble_eq_true rfl⟩ dX12_joins_143 (fun r34 s33 => ?_)
      refine rf_iconst C (v := (nI 1)) dX12_joins_146 rfl ?_
      refine rf_zast C ar162 dX12_joins_147 (fun s35 => ?_)
      exact rf_sub [0, 1, 2, 3, 4, 5] rfl (hj31 s35 trivial)
    refine rf_if_eq C 105 dX12_joins_64 (by decide) (fun _ => ?_) (fun _ => ?_)
    · exact rf_sub [0, 1, 2, 3, 4] rfl (hj23 s9 trivial)
    refine rf_iload C dX12_joins_67 4 rfl ?_
    refine rf_callSi C (rmc := rmOf 0 0) [.int v8] (by decide) (mX12_lettersOf (gL Γ) v8 s9) mfX12_lettersOf msX12_lettersOf mlX12_131 rfl rfl rfl (Nat.le_of_ble_eq_true rfl) ⟨Nat.le_of_ble_eq_true rfl, Nat.le_of_ble_eq_true rfl⟩ dX12_joins_69 (fun r37 s36 => ?_)
    refine rf_iconst C (v := (nI 3)) dX12_joins_72 rfl ?_
    refine rf_icmp_ne C 105 dX12_joins_73 (by decide) (fun _ => ?_) (fun _ => ?_)
    · exact rf_sub [0, 1, 2, 3, 4] rfl (hj23 s36 trivial)
    refine rf_aload_n C dX12_joins_76 rfl 0 rfl ?_
    refine rf_get C (v := .ref ((gE Γ).2.1 162)) cfX12 flX12_54 (by decide) oX12 rfl dX12_joins_77 ?_
    refine rf_iload C dX12_joins_80 4 rfl ?_
    refine rf_aload_n C dX12_joins_82 rfl 0 rfl ?_
    refine rf_get C (v := .ref ((gE Γ).2.1 162)) cfX12 flX12_54 (by decide) oX12 rfl dX12_joins_83 ?_
    refine rf_iload C dX12_joins_86 4 rfl ?_
    refine rf_zald C ar162 dX12_joins_88 (fun v38 => ?_)
    refine rf_jn2 (fun _ _ => True) (fun _ s40 => s40) (fun v39 s40 => [(0, .ref ((gE Γ).2.1 148)), (1, .ref ((gE Γ).2.1 a1)), (2, .int a2), (3, .int v3), (4, .int v8)]) (fun v39 s40 => [.int v39, .int v8, .ref ((gE Γ).2.1 162)]) 101 (fun v39 s40 _ => ?_) (fun j41 hj41 => ?_)
    · refine rf_zast C ar162 dX12_joins_101 (fun s42 => ?_)
      refine rf_goto C 154 dX12_joins_102 (by decide) ?_
      exact rf_sub [0, 1, 2, 3, 4] rfl (hj20 s42 trivial)
    refine rf_jn1 (fun _ => True) (fun  s43 => s43) (fun s43 => [(0, .ref ((gE Γ).2.1 148)), (1, .ref ((gE Γ).2.1 a1)), (2, .int a2), (3, .int v3), (4, .int v8)]) (fun s43 => [.int v8, .ref ((gE Γ).2.1 162)]) 96 (fun s43 _ => ?_) (fun j44 hj44 => ?_)
    · refine rf_iconst C (v := (nI 1)) dX12_joins_96 rfl ?_
      refine rf_goto C 101 dX12_joins_97 (by decide) ?_
      exact rf_sub [0, 1, 2, 3, 4] rfl (hj41 (nI 1) s43 trivial)
    refine rf_if_ne C 96 dX12_joins_89 (by decide) (fun _ => ?_) (fun _ => ?_)
    · exact rf_sub [0, 1, 2, 3, 4] rfl (hj44 s36 trivial)
    refine rf_iload_n C dX12_joins_92 rfl 3 rfl ?_
    refine rf_if_eq C 100 dX12_joins_93 (by decide) (fun _ => ?_) (fun _ => ?_)
    · refine rf_iconst C (v := (nI 0)) dX12_joins_100 rfl ?_
      exact rf_sub [0, 1, 2, 3, 4] rfl (hj41 (nI 0) s36 trivial)
    exact rf_sub [0, 1, 2, 3, 4] rfl (hj44 s36 trivial)
  refine rf_aload_n C dX12_joins_13 rfl 0 rfl ?_
  refine rf_get C (v := .ref ((gE Γ).2.1 162)) cfX12 flX12_54 (by decide) oX12 rfl dX12_joins_14 ?_
  refine rf_iload C dX12_joins_17 4 rfl ?_
  refine rf_iconst C (v := (nI 0)) dX12_joins_19 rfl ?_
  refine rf_zast C ar162 dX12_joins_20 (fun s45 => ?_)
  refine rf_iload_n C dX12_joins_21 rfl 3 rfl ?_
  refine rf_jn2 (fun _ _ => True) (fun _ s47 => s47) (fun v46 s47 => [(0, .ref ((gE Γ).2.1 148)), (1, .ref ((gE Γ).2.1 a1)), (2, .int a2), (4, .int v4)]) (fun v46 s47 => [.int v46]) 39 (fun v46 s47 _ => ?_) (fun j48 hj48 => ?_)
  · refine rf_istore_n C (fun v49 => [(3, .int v49), (0, .ref ((gE Γ).2.1 148)), (1, .ref ((gE Γ).2.1 a1)), (2, .int a2), (4, .int v4)]) dX12_joins_39 rfl (by decide) (fun _ => rfl) (fun v49 => ?_)
    refine rf_iinc C (fun v50 => [(4, .int v50), (3, .int v49), (0, .ref ((gE Γ).2.1 148)), (1, .ref ((gE Γ).2.1 a1)), (2, .int a2)]) dX12_joins_40 4 rfl rfl (by decide) (fun _ => rfl) (fun v50 => ?_)
    refine rf_goto C 5 dX12_joins_43 (by decide) ?_
    exact rf_sub [2, 3, 4, 1, 0] rfl (hrec6 v49 v50 s47 trivial)
  refine rf_jn1 (fun _ => True) (fun  s51 => s51) (fun s51 => [(0, .ref ((gE Γ).2.1 148)), (1, .ref ((gE Γ).2.1 a1)), (2, .int a2), (4, .int v4)]) (fun s51 => []) 34 (fun s51 _ => ?_) (fun j52 hj52 => ?_)
  · refine rf_iconst C (v := (nI 1)) dX12_joins_34 rfl ?_
    refine rf_goto C 39 dX12_joins_35 (by decide) ?_
    exact rf_sub [0, 1, 2, 3] rfl (hj48 (nI 1) s51 trivial)
  refine rf_if_ne C 34 dX12_joins_22 (by decide) (fun _ => ?_) (fun _ => ?_)
  · exact rf_sub [0, 1, 2, 4] rfl (hj52 s45 trivial)
  refine rf_aload_n C dX12_joins_25 rfl 1 rfl ?_
  refine rf_iload_n C dX12_joins_26 rfl 2 rfl ?_
  refine rf_iload C dX12_joins_27 4 rfl ?_
  refine rf_iadd C dX12_joins_29 ?_
  refine rf_zald C ha1 dX12_joins_30 (fun v53 => ?_)
  refine rf_if_eq C 38 dX12_joins_31 (by decide) (fun _ => ?_) (fun _ => ?_)
  · refine rf_iconst C (v := (nI 0)) dX12_joins_38 rfl ?_
    exact rf_sub [0, 1, 2, 4] rfl (hj48 (nI 0) s45 trivial)
  exact rf_sub [0, 1, 2, 4] rfl (hj52 s45 trivial)

def fX12_joinsSymbols (n : Nat) (a1 : Int32) (a2 : Int32) (s0 : PH) : Option (Unit × PH) :=
(lt a2 fun (v1 : Int32) =>
(loo2 (fun (recrec4 : Int32 → PH → Option (Unit × PH)) (v2 : Int32) (s3 : PH) =>
(bd (fX12_size a1 s3) fun (r6 : Int32) (s5 : PH) =>
(if r6 ≤ v2 then
(some ((), s5))
else
(bd (fX12_at a1 v2 s5) fun (r8 : Int32) (s7 : PH) =>
(jn (fun (s9 : PH) =>
(lt (v2 + (nI 1)) fun (v11 : Int32) =>
(recrec4 v11 s9))) (fun (j10 : PH → Option (Unit × PH)) =>
(if r8 < (nI 10) then
(bd (fX12_at a1 v2 s7) fun (r13 : Int32) (s12 : PH) =>
(wa 216 (r13 + (nI 1)) (lt (si s12 163 (r13 + (nI 1)).toNatClampNeg (nz (nI 1))) fun (s14 : PH) =>
(bd (fX12_joins n 163 216 (nI 0) s14) fun _ (s15 : PH) =>
(bd (fX12_at a1 v2 s15) fun (r17 : Int32) (s16 : PH) =>
(wa 216 (r17 + (nI 1)) (lt (si s16 163 (r17 + (nI 1)).toNatClampNeg (nz (nI 0))) fun (s18 : PH) =>
(j10 s18))))))))
else
(bd (fX12_at a1 v2 s7) fun (r20 : Int32) (s19 : PH) =>
(bd (fX12_joins n 158 1296 ((nI 216) * (r20 - (nI 10))) s19) fun _ (s21 : PH) =>
(j10 s21)))))))))) n v1 s0))
set_option maxRecDepth 20000 in
set_option maxHeartbeats 2000000 in
theorem mX12_joinsSymbols (l : Launch) (n : Nat) (a1 : Int32) (a2 : Int32) (s0 : PH) : Ctv 174 l yX12_joinsSymbols cX12_joinsSymbols 4 none (rmOf 4 90) (fun E => [.ref (E.2.1 148), .int a1, .int a2]) s0 (fX12_joinsSymbols n a1 a2 s0) := by
  refine Ctv.of (by decide) rfl (lv := fun E => [(0, .ref (E.2.1 148)), (1, .int a1), (2, .int a2)]) (fun _ => Nat.le_of_ble_eq_true rfl) (fun _ => rfl) (fun Γ hΓ _ C => ?_)
  subst hΓ
  unfold fX12_joinsSymbols
  refine rf_iload_n C dX12_joinsSymbols_0 rfl 2 rfl ?_
  refine rf_istore_n C (fun v1 => [(3, .int v1), (0, .ref ((gE Γ).2.1 148)), (1, .int a1), (2, .int a2)]) dX12_joinsSymbols_1 rfl (by decide) (fun _ => rfl) (fun v1 => ?_)
  refine rf_sub [1, 2, 0] rfl ?_
  refine rf_loo2 (fun _ _ => True) (fun _ s3 => s3) (fun v2 s3 => [(0, .ref ((gE Γ).2.1 148)), (1, .int a1), (3, .int v2)]) (fun recrec4 hrec4 v2 s3 _ => ?_) n v1 s0 trivial
  refine rf_iload_n C dX12_joinsSymbols_2 rfl 2 rfl ?_
  refine rf_aload_n C dX12_joinsSymbols_3 rfl 0 rfl ?_
  refine rf_iload_n C dX12_joinsSymbols_4 rfl 1 rfl ?_
  refine rf_callVi C (rmc := rmOf 0 0) [.int a1] (by decide) (mX12_size (gL Γ) a1 s3) mfX12_size mvX12_size mlX12_117 rfl oX12 rfl rfl rfl (Nat.le_of_ble_eq_true rfl) ⟨Nat.le_of_ble_eq_true rfl, Nat.le_of_ble_eq_true rfl⟩ dX12_joinsSymbols_5 (fun r6 s5 => ?_)
  refine rf_icmp_ge C 89 dX12_joinsSymbols_8 (by decide) (fun _ => ?_) (fun _ => ?_)
  · exact rf_vret C dX12_joinsSymbols_89
  refine rf_aload_n C dX12_joinsSymbols_11 rfl 0 rfl ?_
  refine rf_iload_n C dX12_joinsSymbols_12 rfl 1 rfl ?_
  refine rf_iload_n C dX12_joinsSymbols_13 rfl 2 rfl ?_
  refine rf_callVi C (rmc := rmOf 0 0) [.int a1, .int v2] (by decide) (mX12_at (gL Γ) a1 v2 s5) mfX12_at mvX12_at mlX12_109 rfl oX12 rfl rfl rfl (Nat.le_of_ble_eq_true rfl) ⟨Nat.le_of_ble_eq_true rfl, Nat.le_of_ble_eq_true rfl⟩ dX12_joinsSymbols_14 (fun r8 s7 => ?_)
  refine rf_bipush C (v := (nI 10)) dX12_joinsSymbols_17 rfl ?_
  refine rf_jn1 (fun _ => True) (fun  s9 => s9) (fun s9 => [(0, .ref ((gE Γ).2.1 148)), (1, .int a1), (3, .int v2)]) (fun s9 => []) 83 (fun s9 _ => ?_) (fun j10 hj10 => ?_)
  · refine rf_iinc C (fun v11 => [(3, .int v11), (0, .ref ((gE Γ).2.1 148)), (1, .int a1)]) dX12_joinsSymbols_83 2 rfl rfl (by decide) (fun _ => rfl) (fun v11 => ?_)
    refine rf_goto C 2 dX12_joinsSymbols_86 (by decide) ?_
    exact rf_sub [1, 2, 0] rfl (hrec4 v11 s9 trivial)
  refine rf_icmp_lt C 46 dX12_joinsSymbols_19 (by decide) (fun _ => ?_) (fun _ => ?_)
  · refine rf_aload_n C dX12_joinsSymbols_46 rfl 0 rfl ?_
    refine rf_get C (v := .ref ((gE Γ).2.1 163)) cfX12 flX12_57 (by decide) oX12 rfl dX12_joinsSymbols_47 ?_
    refine rf_aload_n C dX12_joinsSymbols_50 rfl 0 rfl ?_
    refine rf_iload_n C dX12_joinsSymbols_51 rfl 1 rfl ?_
    refine rf_iload_n C dX12_joinsSymbols_52 rfl 2 rfl ?_
    refine rf_callVi C (rmc := rmOf 0 0) [.int a1, .int v2] (by decide) (mX12_at (gL Γ) a1 v2 s7) mfX12_at mvX12_at mlX12_109 rfl oX12 rfl rfl rfl (Nat.le_of_ble_eq_true rfl) ⟨Nat.le_of_ble_eq_true rfl, Nat.le_of_ble_eq_true rfl⟩ dX12_joinsSymbols_53 (fun r13 s12 => ?_)
    refine rf_iconst C (v := (nI 1)) dX12_joinsSymbols_56 rfl ?_
    refine rf_iadd C dX12_joinsSymbols_57 ?_
    refine rf_iconst C (v := (nI 1)) dX12_joinsSymbols_58 rfl ?_
    refine rf_zast C ar163 dX12_joinsSymbols_59 (fun s14 => ?_)
    refine rf_aload_n C dX12_joinsSymbols_60 rfl 0 rfl ?_
    refine rf_aload_n C dX12_joinsSymbols_61 rfl 0 rfl ?_
    refine rf_get C (v := .ref ((gE Γ).2.1 163)) cfX12 flX12_57 (by decide) oX12 rfl dX12_joinsSymbols_62 ?_
    refine rf_iconst C (v := (nI 0)) dX12_joinsSymbols_65 rfl ?_
    refine rf_callVv C (rmc := rmOf 3 65) [.ref ((gE Γ).2.1 163), .int (nI 0)] (by decide) (mX12_joins (gL Γ) n 163 216 (nI 0) s14 ar163) mfX12_joins mvX12_joins mlX12_143 rfl oX12 rfl rfl rfl (Nat.le_of_ble_eq_true rfl) ⟨Nat.le_of_ble_eq_true rfl, Nat.le_of_ble_eq_true rfl⟩ dX12_joinsSymbols_66 (fun s15 => ?_)
    refine rf_aload_n C dX12_joinsSymbols_69 rfl 0 rfl ?_
    refine rf_get C (v := .ref ((gE Γ).2.1 163)) cfX12 flX12_57 (by decide) oX12 rfl dX12_joinsSymbols_70 ?_
    refine rf_aload_n C dX12_joinsSymbols_73 rfl 0 rfl ?_
    refine rf_iload_n C dX12_joinsSymbols_74 rfl 1 rfl ?_
    refine rf_iload_n C dX12_joinsSymbols_75 rfl 2 rfl ?_
    refine rf_callVi C (rmc := rmOf 0 0) [.int a1, .int v2] (by decide) (mX12_at (gL Γ) a1 v2 s15) mfX12_at mvX12_at mlX12_109 rfl oX12 rfl rfl rfl (Nat.le_of_ble_eq_true rfl) ⟨Nat.le_of_ble_eq_true rfl, Nat.le_of_ble_eq_true rfl⟩ dX12_joinsSymbols_76 (fun r17 s16 => ?_)
    refine rf_iconst C (v := (nI 1)) dX12_joinsSymbols_79 rfl ?_
    refine rf_iadd C dX12_joinsSymbols_80 ?_
    refine rf_iconst C (v := (nI 0)) dX12_joinsSymbols_81 rfl ?_
    refine rf_zast C ar163 dX12_joinsSymbols_82 (fun s18 => ?_)
    exact rf_sub [0, 1, 2] rfl (hj10 s18 trivial)
  refine rf_aload_n C dX12_joinsSymbols_22 rfl 0 rfl ?_
  refine rf_aload_n C dX12_joinsSymbols_23 rfl 0 rfl ?_
  refine rf_get C (v := .ref ((gE Γ).2.1 158)) cfX12 flX12_42 (by decide) oX12 rfl dX12_joinsSymbols_24 ?_
  refine rf_sipush C (v := (nI 216)) dX12_joinsSymbols_27 rfl ?_
  refine rf_aload_n C dX12_joinsSymbols_30 rfl 0 rfl ?_
  refine rf_iload_n C dX12_joinsSymbols_31 rfl 1 rfl ?_
  refine rf_iload_n C dX12_joinsSymbols_32 rfl 2 rfl ?_
  refine rf_callVi C (rmc := rmOf 0 0) [.int a1, .int v2] (by decide) (mX12_at (gL Γ) a1 v2 s7) mfX12_at mvX12_at mlX12_109 rfl oX12 rfl rfl rfl (Nat.le_of_ble_eq_true rfl) ⟨Nat.le_of_ble_eq_true rfl, Nat.le_of_ble_eq_true rfl⟩ dX12_joinsSymbols_33 (fun r20 s19 => ?_)
  refine rf_bipush C (v := (nI 10)) dX12_joinsSymbols_36 rfl ?_
  refine rf_isub C dX12_joinsSymbols_38 ?_
  refine rf_imul C dX12_joinsSymbols_39 ?_
  refine rf_callVv C (rmc := rmOf 3 65) [.ref ((gE Γ).2.1 158), .int ((nI 216) * (r20 - (nI 10)))] (by decide) (mX12_joins (gL Γ) n 158 1296 ((nI 216) * (r20 - (nI 10))) s19 ar158) mfX12_joins mvX12_joins mlX12_143 rfl oX12 rfl rfl rfl (Nat.le_of_ble_eq_true rfl) ⟨Nat.le_of_ble_eq_true rfl, Nat.le_of_ble_eq_true rfl⟩ dX12_joinsSymbols_40 (fun s21 => ?_)
  refine rf_goto C 83 dX12_joinsSymbols_43 (by decide) ?_
  exact rf_sub [0, 1, 2] rfl (hj10 s21 trivial)

def fX12_enters (n : Nat) (a1 a1n : Nat) (a2 : Int32) (s0 : PH) : Option (Int32 × PH) :=
(lt (nI 0) fun (v1 : Int32) =>
(lt (nI 0) fun (v2 : Int32) =>
(loo3 (fun (recrec6 : Int32 → Int32 → PH → Option (Int32 × PH)) (v3 : Int32) (v4 : Int32) (s5 : PH) =>
(if (nI 216) ≤ v4 then
(rz v3 s5)
else
(jn (fun (v7 : Int32) (s8 : PH) =>
(lt v7 fun (v10 : Int32) =>
(ra a1n (a2 + v4) (s8.1 a1) fun (v11 : Int32) =>
(jn (fun (v12 : Int32) (s13 : PH) =>
(wa a1n (a2 + v4) (lt (si s13 a1 (a2 + v4).toNatClampNeg (nz v12)) fun (s15 : PH) =>
(lt (v4 + (nI 1)) fun (v16 : Int32) =>
(recrec6 v10 v16 s15))))) (fun (j14 : Int32 → PH → Option (Int32 × PH)) =>
(jn (fun (s17 : PH) =>
(j14 (nI 1) s17)) (fun (j18 : PH → Option (Int32 × PH)) =>
(if v11 = 0 then
(ra 216 v4 (s8.1 161) fun (v19 : Int32) =>
(if v19 = 0 then
(j14 (nI 0) s8)
else
(j18 s8)))
else
(j18 s8))))))))) (fun (j9 : Int32 → PH → Option (Int32 × PH)) =>
(jn (fun (s20 : PH) =>
(j9 (nI 1) s20)) (fun (j21 : PH → Option (Int32 × PH)) =>
(if v3 = 0 then
(ra 216 v4 (s5.1 161) fun (v22 : Int32) =>
(jn (fun (s23 : PH) =>
(j9 (nI 0) s23)) (fun (j24 : PH → Option (Int32 × PH)) =>
(if v22 = 0 then
(j24 s5)
else
(ra a1n (a2 + v4) (s5.1 a1) fun (v25 : Int32) =>
(if v25 = 0 then
(j21 s5)
else
(j24 s5)))))))
else
(j21 s5)))))))) n v1 v2 s0)))
set_option maxRecDepth 20000 in
set_option maxHeartbeats 2000000 in
theorem mX12_enters (l : Launch) (n : Nat) (a1 a1n : Nat) (a2 : Int32) (s0 : PH) (ha1 : isZ 174 a1 a1n) : Cti 174 l yX12_enters cX12_enters 5 (some .boolean) (rmOf 0 0) (fun E => [.ref (E.2.1 148), .ref (E.2.1 a1), .int a2]) s0 (fX12_enters n a1 a1n a2 s0) := by
  refine Cti.of (by decide) rfl (lv := fun E => [(0, .ref (E.2.1 148)), (1, .ref (E.2.1 a1)), (2, .int a2)]) (fun _ => Nat.le_of_ble_eq_true rfl) (fun _ => rfl) (fun Γ hΓ _ C => ?_)
  subst hΓ
  unfold fX12_enters
  refine rf_iconst C (v := (nI 0)) dX12_enters_0 rfl ?_
  refine rf_istore_n C (fun v1 => [(3, .int v1), (0, .ref ((gE Γ).2.1 148)), (1, .ref ((gE Γ).2.1 a1)), (2, .int a2)]) dX12_enters_1 rfl (by decide) (fun _ => rfl) (fun v1 => ?_)
  refine rf_iconst C (v := (nI 0)) dX12_enters_2 rfl ?_
  refine rf_istore C (fun v2 => [(4, .int v2), (3, .int v1), (0, .ref ((gE Γ).2.1 148)), (1, .ref ((gE Γ).2.1 a1)), (2, .int a2)]) dX12_enters_3 (by decide) (fun _ => rfl) (fun v2 => ?_)
  refine rf_sub [2, 3, 4, 1, 0] rfl ?_
  refine rf_loo3 (fun _ _ _ => True) (fun _ _ s5 => s5) (fun v3 v4 s5 => [(0, .ref ((gE Γ).2.1 148)), (1, .ref ((gE Γ).2.1 a1)), (2, .int a2), (3, .int v3), (4, .int v4)]) (fun recrec6 hrec6 v3 v4 s5 _ => ?_) n v1 v2 s0 trivial
  refine rf_iload C dX12_enters_5 4 rfl ?_
  refine rf_sipush C (v := (nI 216)) dX12_enters_7 rfl ?_
  refine rf_icmp_ge C 78 dX12_enters_10 (by decide) (fun _ => ?_) (fun _ => ?_)
  · refine rf_iload_n C dX12_enters_78 rfl 3 rfl ?_
    exact rf_zretv C dX12_enters_79
  refine rf_iload_n C dX12_enters_13 rfl 3 rfl ?_
  refine rf_jn2 (fun _ _ => True) (fun _ s8 => s8) (fun v7 s8 => [(0, .ref ((gE Γ).2.1 148)), (1, .ref ((gE Γ).2.1 a1)), (2, .int a2), (4, .int v4)]) (fun v7 s8 => [.int v7]) 41 (fun v7 s8 _ => ?_) (fun j9 hj9 => ?_)
  · refine rf_istore_n C (fun v10 => [(3, .int v10), (0, .ref ((gE Γ).2.1 148)), (1, .ref ((gE Γ).2.1 a1)), (2, .int a2), (4, .int v4)]) dX12_enters_41 rfl (by decide) (fun _ => rfl) (fun v10 => ?_)
    refine rf_aload_n C dX12_enters_42 rfl 2 rfl ?_
    refine rf_iload_n C dX12_enters_43 rfl 3 rfl ?_
    refine rf_iload C dX12_enters_44 4 rfl ?_
    refine rf_iadd C dX12_enters_46 ?_
    refine rf_aload_n C dX12_enters_47 rfl 2 rfl ?_
    refine rf_iload_n C dX12_enters_48 rfl 3 rfl ?_
    refine rf_iload C dX12_enters_49 4 rfl ?_
    refine rf_iadd C dX12_enters_51 ?_
    refine rf_zald C ha1 dX12_enters_52 (fun v11 => ?_)
    refine rf_jn2 (fun _ _ => True) (fun _ s13 => s13) (fun v12 s13 => [(0, .ref ((gE Γ).2.1 148)), (1, .ref ((gE Γ).2.1 a1)), (2, .int a2), (3, .int v10), (4, .int v4)]) (fun v12 s13 => [.int v12, .int (a2 + v4), .ref ((gE Γ).2.1 a1)]) 71 (fun v12 s13 _ => ?_) (fun j14 hj14 => ?_)
    · refine rf_zast C ha1 dX12_enters_71 (fun s15 => ?_)
      refine rf_iinc C (fun v16 => [(4, .int v16), (0, .ref ((gE Γ).2.1 148)), (1, .ref ((gE Γ).2.1 a1)), (2, .int a2), (3, .int v10)]) dX12_enters_72 4 rfl rfl (by decide) (fun _ => rfl) (fun v16 => ?_)
      refine rf_goto C 5 dX12_enters_75 (by decide) ?_
      exact rf_sub [1, 2, 3, 4, 0] rfl (hrec6 v10 v16 s15 trivial)
    refine rf_jn1 (fun _ => True) (fun  s17 => s17) (fun s17 => [(0, .ref ((gE Γ).2.1 148)), (1, .ref ((gE Γ).2.1 a1)), (2, .int a2), (3, .int v10), (4, .int v4)]) (fun s17 => [.int (a2 + v4), .ref ((gE Γ).2.1 a1)]) 66 (fun s17 _ => ?_) (fun j18 hj18 => ?_)
    · refine rf_iconst C (v := (nI 1)) dX12_enters_66 rfl ?_
      refine rf_goto C 71 dX12_enters_67 (by decide) ?_
      exact rf_sub [0, 1, 2, 3, 4] rfl (hj14 (nI 1) s17 trivial)
    refine rf_if_ne C 66 dX12_enters_53 (by decide) (fun _ => ?_) (fun _ => ?_)
    · exact rf_sub [1, 2, 3, 0, 4] rfl (hj18 s8 trivial)
    refine rf_aload_n C dX12_enters_56 rfl 1 rfl ?_
    refine rf_get C (v := .ref ((gE Γ).2.1 161)) cfX12 flX12_51 (by decide) oX12 rfl dX12_enters_57 ?_
    refine rf_iload C dX12_enters_60 4 rfl ?_
    refine rf_zald C ar161 dX12_enters_62 (fun v19 => ?_)
    refine rf_if_eq C 70 dX12_enters_63 (by decide) (fun _ => ?_) (fun _ => ?_)
    · refine rf_iconst C (v := (nI 0)) dX12_enters_70 rfl ?_
      exact rf_sub [1, 2, 3, 0, 4] rfl (hj14 (nI 0) s8 trivial)
    exact rf_sub [1, 2, 3, 0, 4] rfl (hj18 s8 trivial)
  refine rf_jn1 (fun _ => True) (fun  s20 => s20) (fun s20 => [(0, .ref ((gE Γ).2.1 148)), (1, .ref ((gE Γ).2.1 a1)), (2, .int a2), (4, .int v4)]) (fun s20 => []) 36 (fun s20 _ => ?_) (fun j21 hj21 => ?_)
  · refine rf_iconst C (v := (nI 1)) dX12_enters_36 rfl ?_
    refine rf_goto C 41 dX12_enters_37 (by decide) ?_
    exact rf_sub [0, 1, 2, 3] rfl (hj9 (nI 1) s20 trivial)
  refine rf_if_ne C 36 dX12_enters_14 (by decide) (fun _ => ?_) (fun _ => ?_)
  · exact rf_sub [0, 1, 2, 4] rfl (hj21 s5 trivial)
  refine rf_aload_n C dX12_enters_17 rfl 0 rfl ?_
  refine rf_get C (v := .ref ((gE Γ).2.1 161)) cfX12 flX12_51 (by decide) oX12 rfl dX12_enters_18 ?_
  refine rf_iload C dX12_enters_21 4 rfl ?_
  refine rf_zald C ar161 dX12_enters_23 (fun v22 => ?_)
  refine rf_jn1 (fun _ => True) (fun  s23 => s23) (fun s23 => [(0, .ref ((gE Γ).2.1 148)), (1, .ref ((gE Γ).2.1 a1)), (2, .int a2), (4, .int v4)]) (fun s23 => []) 40 (fun s23 _ => ?_) (fun j24 hj24 => ?_)
  · refine rf_iconst C (v := (nI 0)) dX12_enters_40 rfl ?_
    exact rf_sub [0, 1, 2, 3] rfl (hj9 (nI 0) s23 trivial)
  refine rf_if_eq C 40 dX12_enters_24 (by decide) (fun _ => ?_) (fun _ => ?_)
  · exact rf_sub [0, 1, 2, 4] rfl (hj24 s5 trivial)
  refine rf_aload_n C dX12_enters_27 rfl 1 rfl ?_
  refine rf_iload_n C dX12_enters_28 rfl 2 rfl ?_
  refine rf_iload C dX12_enters_29 4 rfl ?_
  refine rf_iadd C dX12_enters_31 ?_
  refine rf_zald C ha1 dX12_enters_32 (fun v25 => ?_)
  refine rf_if_ne C 40 dX12_enters_33 (by decide) (fun _ => ?_) (fun _ => ?_)
  · exact rf_sub [0, 1, 2, 4] rfl (hj24 s5 trivial)
  exact rf_sub [0, 1, 2, 4] rfl (hj21 s5 trivial)

