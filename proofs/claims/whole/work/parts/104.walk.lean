def fX7_read (n : Nat) (s0 : PH) : Option (Unit × PH) :=
(lt (s0.2.2 3 1) fun (g1 : Nat) =>
(bd (fX4_drop n g1 s0) fun _ (s2 : PH) =>
(lt (si s2 3 2 (-9 : Int32)) fun (s3 : PH) =>
(lt (si s3 3 4 (nI 0)) fun (s4 : PH) =>
(bd (fJ7_fill_53178 n 4 6 (nI 1000) s4) fun _ (s5 : PH) =>
(lt (nI 0) fun (v6 : Int32) =>
(loo2 (fun (recrec9 : Int32 → PH → Option (Unit × PH)) (v7 : Int32) (s8 : PH) =>
(bd (fX8_size s8) fun (r11 : Int32) (s10 : PH) =>
(jn (fun (s12 : PH) =>
(jn (fun (s14 : PH) =>
(if (s14.1 3 2) = (-9 : Int32) then
(bd (fX7_blameUndefined n s14) fun _ (s16 : PH) =>
(some ((), s16)))
else
(some ((), s14)))) (fun (j15 : PH → Option (Unit × PH)) =>
(if (s12.1 3 2) = (-9 : Int32) then
(jn (fun (s17 : PH) =>
(bd (fX8_size s17) fun (r20 : Int32) (s19 : PH) =>
(bd (fX7_blame (nI 1) r20 s19) fun _ (s21 : PH) =>
(j15 s21)))) (fun (j18 : PH → Option (Unit × PH)) =>
(if (s12.1 3 4) = 0 then
(lt (s12.2.2 3 1) fun (g22 : Nat) =>
(bd (fX4_count g22 s12) fun (r24 : Int32) (s23 : PH) =>
(if r24 = 0 then
(j18 s23)
else
(j15 s23))))
else
(j18 s12))))
else
(j15 s12))))) (fun (j13 : PH → Option (Unit × PH)) =>
(if r11 ≤ v7 then
(j13 s10)
else
(if (s10.1 3 2) = (-9 : Int32) then
(bd (fX8_at v7 s10) fun (r26 : Int32) (s25 : PH) =>
(bd (fX7_readByte r26 v7 s25) fun _ (s27 : PH) =>
(lt (v7 + (nI 1)) fun (v28 : Int32) =>
(recrec9 v28 s27))))
else
(j13 s10))))))) n v6 s5)))))))
set_option maxRecDepth 20000 in
set_option maxHeartbeats 2000000 in
theorem mX7_read (l : Launch) (n : Nat) (s0 : PH) : Ctv 148 l yX7_read cX7_read 3 none (rmOf 5 107) (fun E => [.ref (E.2.1 3), .ref (E.2.1 1)]) s0 (fX7_read n s0) := by
  refine Ctv.of (by decide) rfl (lv := fun E => [(0, .ref (E.2.1 3)), (1, .ref (E.2.1 1))]) (fun _ => Nat.le_of_ble_eq_true rfl) (fun _ => rfl) (fun Γ hΓ _ C => ?_)
  subst hΓ
  unfold fX7_read
  refine rf_aload_n C dX7_read_0 rfl 0 rfl ?_
  refine rf_getG C cfX7 flX7_18 (by decide) oX7 (fun _ _ _ _ => rfl) dX7_read_1 (fun g1 hg1 => ?_)
  refine rf_callVv C (rmc := rmOf 1 23) [] (by decide) (mX4_drop (gL Γ) n g1 s0 hg1) mfX4_drop mvX4_drop mlX7_35 rfl (oX4 hg1) rfl rfl rfl (Nat.le_of_ble_eq_true rfl) ⟨Nat.le_of_ble_eq_true rfl, Nat.le_of_ble_eq_true rfl⟩ dX7_read_4 (fun s2 => ?_)
  refine rf_aload_n C dX7_read_7 rfl 0 rfl ?_
  refine rf_bipush C (v := (-9 : Int32)) dX7_read_8 rfl ?_
  refine rf_puti C cfX7 flX7_22 (by decide) rfl oX7 (fty := .int) rfl rfl rfl (fun _ _ _ _ => Nat.le_of_ble_eq_true rfl) (fun _ _ _ _ => rfl) dX7_read_10 (fun s3 => ?_)
  refine rf_aload_n C dX7_read_13 rfl 0 rfl ?_
  refine rf_iconst C (v := (nI 0)) dX7_read_14 rfl ?_
  refine rf_puti C cfX7 flX7_29 (by decide) rfl oX7 (fty := .int) rfl rfl rfl (fun _ _ _ _ => Nat.le_of_ble_eq_true rfl) (fun _ _ _ _ => rfl) dX7_read_15 (fun s4 => ?_)
  refine rf_aload_n C dX7_read_18 rfl 0 rfl ?_
  refine rf_get C (v := .ref ((gE Γ).2.1 4)) cfX7 flX7_9 (by decide) oX7 rfl dX7_read_19 ?_
  refine rf_sipush C (v := (nI 1000)) dX7_read_22 rfl ?_
  refine rf_callSv C (rmc := rmOf 0 0) [.ref ((gE Γ).2.1 4), .int (nI 1000)] (by decide) (mJ7_fill_53178 (gL Γ) n 4 6 (nI 1000) s4 ar4) mfJ7_fill_53178 msJ7_fill_53178 mlX7_38 rfl rfl rfl (Nat.le_of_ble_eq_true rfl) ⟨Nat.le_of_ble_eq_true rfl, Nat.le_of_ble_eq_true rfl⟩ dX7_read_25 (fun s5 => ?_)
  refine rf_iconst C (v := (nI 0)) dX7_read_28 rfl ?_
  refine rf_istore_n C (fun v6 => [(2, .int v6), (0, .ref ((gE Γ).2.1 3)), (1, .ref ((gE Γ).2.1 1))]) dX7_read_29 rfl (by decide) (fun _ => rfl) (fun v6 => ?_)
  refine rf_sub [1, 2, 0] rfl ?_
  refine rf_loo2 (fun _ _ => True) (fun _ s8 => s8) (fun v7 s8 => [(0, .ref ((gE Γ).2.1 3)), (1, .ref ((gE Γ).2.1 1)), (2, .int v7)]) (fun recrec9 hrec9 v7 s8 _ => ?_) n v6 s5 trivial
  refine rf_iload_n C dX7_read_30 rfl 2 rfl ?_
  refine rf_aload_n C dX7_read_31 rfl 1 rfl ?_
  refine rf_callVi C (rmc := rmOf 0 0) [] (by decide) (mX8_size (gL Γ) s8) mfX8_size mvX8_size mlX7_44 rfl oX8 rfl rfl rfl (Nat.le_of_ble_eq_true rfl) ⟨Nat.le_of_ble_eq_true rfl, Nat.le_of_ble_eq_true rfl⟩ dX7_read_32 (fun r11 s10 => ?_)
  refine rf_jn1 (fun _ => True) (fun  s12 => s12) (fun s12 => [(0, .ref ((gE Γ).2.1 3)), (1, .ref ((gE Γ).2.1 1))]) (fun s12 => []) 63 (fun s12 _ => ?_) (fun j13 hj13 => ?_)
  · refine rf_aload_n C dX7_read_63 rfl 0 rfl ?_
    refine rf_get C (v := .int (s12.1 3 2)) cfX7 flX7_22 (by decide) oX7 rfl dX7_read_64 ?_
    refine rf_bipush C (v := (-9 : Int32)) dX7_read_67 rfl ?_
    refine rf_jn1 (fun _ => True) (fun  s14 => s14) (fun s14 => [(0, .ref ((gE Γ).2.1 3))]) (fun s14 => []) 98 (fun s14 _ => ?_) (fun j15 hj15 => ?_)
    · refine rf_aload_n C dX7_read_98 rfl 0 rfl ?_
      refine rf_get C (v := .int (s14.1 3 2)) cfX7 flX7_22 (by decide) oX7 rfl dX7_read_99 ?_
      refine rf_bipush C (v := (-9 : Int32)) dX7_read_102 rfl ?_
      refine rf_icmp_ne C 111 dX7_read_104 (by decide) (fun _ => ?_) (fun _ => ?_)
      · exact rf_vret C dX7_read_111
      refine rf_aload_n C dX7_read_107 rfl 0 rfl ?_
      refine rf_callVv C (rmc := rmOf 1 22) [] (by decide) (mX7_blameUndefined (gL Γ) n s14) mfX7_blameUndefined mvX7_blameUndefined mlX7_64 rfl oX7 rfl rfl rfl (Nat.le_of_ble_eq_true rfl) ⟨Nat.le_of_ble_eq_true rfl, Nat.le_of_ble_eq_true rfl⟩ dX7_read_108 (fun s16 => ?_)
      exact rf_vret C dX7_read_111
    refine rf_icmp_ne C 98 dX7_read_69 (by decide) (fun _ => ?_) (fun _ => ?_)
    · exact rf_sub [0] rfl (hj15 s12 trivial)
    refine rf_aload_n C dX7_read_72 rfl 0 rfl ?_
    refine rf_get C (v := .int (s12.1 3 4)) cfX7 flX7_29 (by decide) oX7 rfl dX7_read_73 ?_
    refine rf_jn1 (fun _ => True) (fun  s17 => s17) (fun s17 => [(0, .ref ((gE Γ).2.1 3)), (1, .ref ((gE Γ).2.1 1))]) (fun s17 => []) 89 (fun s17 _ => ?_) (fun j18 hj18 => ?_)
    · refine rf_aload_n C dX7_read_89 rfl 0 rfl ?_
      refine rf_iconst C (v := (nI 1)) dX7_read_90 rfl ?_
      refine rf_aload_n C dX7_read_91 rfl 1 rfl ?_
      refine rf_callVi C (rmc := rmOf 0 0) [] (by decide) (mX8_size (gL Γ) s17) mfX8_size mvX8_size mlX7_44 rfl oX8 rfl rfl rfl (Nat.le_of_ble_eq_true rfl) ⟨Nat.le_of_ble_eq_true rfl, Nat.le_of_ble_eq_true rfl⟩ dX7_read_92 (fun r20 s19 => ?_)
      refine rf_callVv C (rmc := rmOf 0 0) [.int (nI 1), .int r20] (by decide) (mX7_blame (gL Γ) (nI 1) r20 s19) mfX7_blame mvX7_blame mlX7_61 rfl oX7 rfl rfl rfl (Nat.le_of_ble_eq_true rfl) ⟨Nat.le_of_ble_eq_true rfl, Nat.le_of_ble_eq_true rfl⟩ dX7_read_95 (fun s21 => ?_)
      exact rf_sub [0] rfl (hj15 s21 trivial)
    refine rf_if_ne C 89 dX7_read_76 (by decide) (fun _ => ?_) (fun _ => ?_)
    · exact rf_sub [0, 1] rfl (hj18 s12 trivial)
    refine rf_aload_n C dX7_read_79 rfl 0 rfl ?_
    refine rf_getG C cfX7 flX7_18 (by decide) oX7 (fun _ _ _ _ => rfl) dX7_read_80 (fun g22 hg22 => ?_)
    refine rf_callVi C (rmc := rmOf 0 0) [] (by decide) (mX4_count (gL Γ) g22 s12 hg22) mfX4_count mvX4_count mlX7_58 rfl (oX4 hg22) rfl rfl rfl (Nat.le_of_ble_eq_true rfl) ⟨Nat.le_of_ble_eq_true rfl, Nat.le_of_ble_eq_true rfl⟩ dX7_read_83 (fun r24 s23 => ?_)
    refine rf_if_ne C 98 dX7_read_86 (by decide) (fun _ => ?_) (fun _ => ?_)
    · exact rf_sub [0] rfl (hj15 s23 trivial)
    exact rf_sub [0, 1] rfl (hj18 s23 trivial)
  refine rf_icmp_ge C 63 dX7_read_35 (by decide) (fun _ => ?_) (fun _ => ?_)
  · exact rf_sub [0, 1] rfl (hj13 s10 trivial)
  refine rf_aload_n C dX7_read_38 rfl 0 rfl ?_
  refine rf_get C (v := .int (s10.1 3 2)) cfX7 flX7_22 (by decide) oX7 rfl dX7_read_39 ?_
  refine rf_bipush C (v := (-9 : Int32)) dX7_read_42 rfl ?_
  refine rf_icmp_ne C 63 dX7_read_44 (by decide) (fun _ => ?_) (fun _ => ?_)
  · exact rf_sub [0, 1] rfl (hj13 s10 trivial)
  refine rf_aload_n C dX7_read_47 rfl 0 rfl ?_
  refine rf_aload_n C dX7_read_48 rfl 1 rfl ?_
  refine rf_iload_n C dX7_read_49 rfl 2 rfl ?_
  refine rf_callVi C (rmc := rmOf 0 0) [.int v7] (by decide) (mX8_at (gL Γ) v7 s10) mfX8_at mvX8_at mlX7_50 rfl oX8 rfl rfl rfl (Nat.le_of_ble_eq_true rfl) ⟨Nat.le_of_ble_eq_true rfl, Nat.le_of_ble_eq_true rfl⟩ dX7_read_50 (fun r26 s25 => ?_)
  refine rf_iload_n C dX7_read_53 rfl 2 rfl ?_
  refine rf_callVv C (rmc := rmOf 4 85) [.int r26, .int v7] (by decide) (mX7_readByte (gL Γ) r26 v7 s25) mfX7_readByte mvX7_readByte mlX7_54 rfl oX7 rfl rfl rfl (Nat.le_of_ble_eq_true rfl) ⟨Nat.le_of_ble_eq_true rfl, Nat.le_of_ble_eq_true rfl⟩ dX7_read_54 (fun s27 => ?_)
  refine rf_iinc C (fun v28 => [(2, .int v28), (0, .ref ((gE Γ).2.1 3)), (1, .ref ((gE Γ).2.1 1))]) dX7_read_57 2 rfl rfl (by decide) (fun _ => rfl) (fun v28 => ?_)
  refine rf_goto C 30 dX7_read_60 (by decide) ?_
  exact rf_sub [1, 2, 0] rfl (hrec9 v28 s27 trivial)

def fX7_kind (s0 : PH) : Option (Int32 × PH) :=
(some ((s0.1 3 2), s0))
set_option maxRecDepth 20000 in
set_option maxHeartbeats 2000000 in
theorem mX7_kind (l : Launch) (s0 : PH) : Cti 148 l yX7_kind cX7_kind 1 (some .int) (rmOf 0 0) (fun E => [.ref (E.2.1 3)]) s0 (fX7_kind s0) := by
  refine Cti.of (by decide) rfl (lv := fun E => [(0, .ref (E.2.1 3))]) (fun _ => Nat.le_of_ble_eq_true rfl) (fun _ => rfl) (fun Γ hΓ _ C => ?_)
  subst hΓ
  unfold fX7_kind
  refine rf_aload_n C dX7_kind_0 rfl 0 rfl ?_
  refine rf_get C (v := .int (s0.1 3 2)) cfX7 flX7_22 (by decide) oX7 rfl dX7_kind_1 ?_
  exact rf_iret C dX7_kind_4

def fX5_remember (n : Nat) (a1 : Nat) (s0 : PH) : Option (Nat × PH) :=
(if (nI 4) ≤ (s0.1 5 1) then
(ra 4 (nI 0) (s0.2.2 6) fun (g1 : Nat) =>
(lt (nI 1) fun (v2 : Int32) =>
(loo2 (fun (recrec5 : Int32 → PH → Option (Nat × PH)) (v3 : Int32) (s4 : PH) =>
(if (nI 4) ≤ v3 then
(wa 4 (nI 3) (lt (sg s4 6 (nI 3).toNatClampNeg a1) fun (s6 : PH) =>
(some (g1, s6))))
else
(ra 4 v3 (s4.2.2 6) fun (g7 : Nat) =>
(wa 4 (v3 - (nI 1)) (lt (sg s4 6 (v3 - (nI 1)).toNatClampNeg g7) fun (s8 : PH) =>
(lt (v3 + (nI 1)) fun (v9 : Int32) =>
(recrec5 v9 s8))))))) n v2 s0)))
else
(ra 4 (s0.1 5 1) (s0.2.2 6) fun (g10 : Nat) =>
(wa 4 (s0.1 5 1) (lt (sg s0 6 (s0.1 5 1).toNatClampNeg a1) fun (s11 : PH) =>
(lt (si s11 5 1 ((s11.1 5 1) + (nI 1))) fun (s12 : PH) =>
(some (g10, s12)))))))
set_option maxRecDepth 20000 in
set_option maxHeartbeats 2000000 in
theorem mX5_remember (l : Launch) (n : Nat) (a1 : Nat) (s0 : PH) (ha1 : a1 < 6) : Ctg 148 l yX5_remember cX5_remember 4 (some (.object "LookaheadDepths$Grammar")) (rmOf 0 0) (fun E => [.ref (E.2.1 5), .ref (E.2.1 (gId a1 0))]) s0 (fX5_remember n a1 s0) := by
  refine Ctg.of (by decide) rfl (lv := fun E => [(0, .ref (E.2.1 5)), (1, .ref (E.2.1 (gId a1 0)))]) (fun _ => Nat.le_of_ble_eq_true rfl) (fun _ => rfl) (fun Γ hΓ _ C => ?_)
  subst hΓ
  unfold fX5_remember
  refine rf_aload_n C dX5_remember_0 rfl 0 rfl ?_
  refine rf_get C (v := .int (s0.1 5 1)) cfX5 flX5_17 (by decide) oX5 rfl dX5_remember_1 ?_
  refine rf_iconst C (v := (nI 4)) dX5_remember_4 rfl ?_
  refine rf_icmp_ge C 40 dX5_remember_5 (by decide) (fun _ => ?_) (fun _ => ?_)
  · refine rf_aload_n C dX5_remember_40 rfl 0 rfl ?_
    refine rf_get C (v := .ref ((gE Γ).2.1 6)) cfX5 flX5_11 (by decide) oX5 rfl dX5_remember_41 ?_
    refine rf_iconst C (v := (nI 0)) dX5_remember_44 rfl ?_
    refine rf_aldG C dX5_remember_45 (fun g1 hg1 => ?_)
    refine rf_astore_n C [(2, .ref ((gE Γ).2.1 (gId g1 0))), (0, .ref ((gE Γ).2.1 5)), (1, .ref ((gE Γ).2.1 (gId a1 0)))] dX5_remember_46 rfl (by decide) rfl ?_
    refine rf_iconst C (v := (nI 1)) dX5_remember_47 rfl ?_
    refine rf_istore_n C (fun v2 => [(3, .int v2), (2, .ref ((gE Γ).2.1 (gId g1 0))), (0, .ref ((gE Γ).2.1 5)), (1, .ref ((gE Γ).2.1 (gId a1 0)))]) dX5_remember_48 rfl (by decide) (fun _ => rfl) (fun v2 => ?_)
    refine rf_sub [2, 3, 1, 0] rfl ?_
    refine rf_loo2 (fun _ _ => True) (fun _ s4 => s4) (fun v3 s4 => [(0, .ref ((gE Γ).2.1 5)), (1, .ref ((gE Γ).2.1 (gId a1 0))), (2, .ref ((gE Γ).2.1 (gId g1 0))), (3, .int v3)]) (fun recrec5 hrec5 v3 s4 _ => ?_) n v2 s0 trivial
    refine rf_iload_n C dX5_remember_49 rfl 3 rfl ?_
    refine rf_iconst C (v := (nI 4)) dX5_remember_50 rfl ?_
    refine rf_icmp_ge C 74 dX5_remember_51 (by decide) (fun _ => ?_) (fun _ => ?_)
    · refine rf_aload_n C dX5_remember_74 rfl 0 rfl ?_
      refine rf_get C (v := .ref ((gE Γ).2.1 6)) cfX5 flX5_11 (by decide) oX5 rfl dX5_remember_75 ?_
      refine rf_iconst C (v := (nI 3)) dX5_remember_78 rfl ?_
      refine rf_aload_n C dX5_remember_79 rfl 1 rfl ?_
      refine rf_astG C ha1 dX5_remember_80 (fun s6 => ?_)
      refine rf_aload_n C dX5_remember_81 rfl 2 rfl ?_
      exact rf_gret C hg1 dX5_remember_82
    refine rf_aload_n C dX5_remember_54 rfl 0 rfl ?_
    refine rf_get C (v := .ref ((gE Γ).2.1 6)) cfX5 flX5_11 (by decide) oX5 rfl dX5_remember_55 ?_
    refine rf_iload_n C dX5_remember_58 rfl 3 rfl ?_
    refine rf_iconst C (v := (nI 1)) dX5_remember_59 rfl ?_
    refine rf_isub C dX5_remember_60 ?_
    refine rf_aload_n C dX5_remember_61 rfl 0 rfl ?_
    refine rf_get C (v := .ref ((gE Γ).2.1 6)) cfX5 flX5_11 (by decide) oX5 rfl dX5_remember_62 ?_
    refine rf_iload_n C dX5_remember_65 rfl 3 rfl ?_
    refine rf_aldG C dX5_remember_66 (fun g7 hg7 => ?_)
    refine rf_astG C hg7 dX5_remember_67 (fun s8 => ?_)
    refine rf_iinc C (fun v9 => [(3, .int v9), (0, .ref ((gE Γ).2.1 5)), (1, .ref ((gE Γ).2.1 (gId a1 0))), (2, .ref ((gE Γ).2.1 (gId g1 0)))]) dX5_remember_68 3 rfl rfl (by decide) (fun _ => rfl) (fun v9 => ?_)
    refine rf_goto C 49 dX5_remember_71 (by decide) ?_
    exact rf_sub [1, 2, 3, 0] rfl (hrec5 v9 s8 trivial)
  refine rf_aload_n C dX5_remember_8 rfl 0 rfl ?_
  refine rf_get C (v := .ref ((gE Γ).2.1 6)) cfX5 flX5_11 (by decide) oX5 rfl dX5_remember_9 ?_
  refine rf_aload_n C dX5_remember_12 rfl 0 rfl ?_
  refine rf_get C (v := .int (s0.1 5 1)) cfX5 flX5_17 (by decide) oX5 rfl dX5_remember_13 ?_
  refine rf_aldG C dX5_remember_16 (fun g10 hg10 => ?_)
  refine rf_astore_n C [(2, .ref ((gE Γ).2.1 (gId g10 0))), (0, .ref ((gE Γ).2.1 5)), (1, .ref ((gE Γ).2.1 (gId a1 0)))] dX5_remember_17 rfl (by decide) rfl ?_
  refine rf_aload_n C dX5_remember_18 rfl 1 rfl ?_
  refine rf_get C (v := .ref ((gE Γ).2.1 6)) cfX5 flX5_11 (by decide) oX5 rfl dX5_remember_19 ?_
  refine rf_aload_n C dX5_remember_22 rfl 1 rfl ?_
  refine rf_get C (v := .int (s0.1 5 1)) cfX5 flX5_17 (by decide) oX5 rfl dX5_remember_23 ?_
  refine rf_aload_n C dX5_remember_26 rfl 2 rfl ?_
  refine rf_astG C ha1 dX5_remember_27 (fun s11 => ?_)
  refine rf_aload_n C dX5_remember_28 rfl 1 rfl ?_
  refine rf_dup C dX5_remember_29 rfl ?_
  refine rf_get C (v := .int (s11.1 5 1)) cfX5 flX5_17 (by decide) oX5 rfl dX5_remember_30 ?_
  refine rf_iconst C (v := (nI 1)) dX5_remember_33 rfl ?_
  refine rf_iadd C dX5_remember_34 ?_
  refine rf_puti C cfX5 flX5_17 (by decide) rfl oX5 (fty := .int) rfl rfl rfl (fun _ _ _ _ => Nat.le_of_ble_eq_true rfl) (fun _ _ _ _ => rfl) dX5_remember_35 (fun s12 => ?_)
  refine rf_aload_n C dX5_remember_38 rfl 0 rfl ?_
  exact rf_gret C hg10 dX5_remember_39

def fX7_exchange (a1 : Nat) (s0 : PH) : Option (Nat × PH) :=
(lt (s0.2.2 3 1) fun (g1 : Nat) =>
(lt (sg s0 3 1 a1) fun (s2 : PH) =>
(some (g1, s2))))
set_option maxRecDepth 20000 in
set_option maxHeartbeats 2000000 in
theorem mX7_exchange (l : Launch) (a1 : Nat) (s0 : PH) (ha1 : a1 < 6) : Ctg 148 l yX7_exchange cX7_exchange 3 (some (.object "LookaheadDepths$Grammar")) (rmOf 0 0) (fun E => [.ref (E.2.1 3), .ref (E.2.1 (gId a1 0))]) s0 (fX7_exchange a1 s0) := by
  refine Ctg.of (by decide) rfl (lv := fun E => [(0, .ref (E.2.1 3)), (1, .ref (E.2.1 (gId a1 0)))]) (fun _ => Nat.le_of_ble_eq_true rfl) (fun _ => rfl) (fun Γ hΓ _ C => ?_)
  subst hΓ
  unfold fX7_exchange
  refine rf_aload_n C dX7_exchange_0 rfl 0 rfl ?_
  refine rf_getG C cfX7 flX7_18 (by decide) oX7 (fun _ _ _ _ => rfl) dX7_exchange_1 (fun g1 hg1 => ?_)
  refine rf_astore_n C [(2, .ref ((gE Γ).2.1 (gId g1 0))), (0, .ref ((gE Γ).2.1 3)), (1, .ref ((gE Γ).2.1 (gId a1 0)))] dX7_exchange_4 rfl (by decide) rfl ?_
  refine rf_aload_n C dX7_exchange_5 rfl 1 rfl ?_
  refine rf_aload_n C dX7_exchange_6 rfl 2 rfl ?_
  refine rf_putG C ha1 cfX7 flX7_18 (by decide) rfl oX7 rfl (fun _ _ _ _ => Nat.le_of_ble_eq_true rfl) (fun _ _ _ _ => rfl) dX7_exchange_7 (fun s2 => ?_)
  refine rf_aload_n C dX7_exchange_10 rfl 0 rfl ?_
  exact rf_gret C hg1 dX7_exchange_11

def fX7_position (s0 : PH) : Option (Int32 × PH) :=
(some ((s0.1 3 3), s0))
set_option maxRecDepth 20000 in
set_option maxHeartbeats 2000000 in
theorem mX7_position (l : Launch) (s0 : PH) : Cti 148 l yX7_position cX7_position 1 (some .int) (rmOf 0 0) (fun E => [.ref (E.2.1 3)]) s0 (fX7_position s0) := by
  refine Cti.of (by decide) rfl (lv := fun E => [(0, .ref (E.2.1 3))]) (fun _ => Nat.le_of_ble_eq_true rfl) (fun _ => rfl) (fun Γ hΓ _ C => ?_)
  subst hΓ
  unfold fX7_position
  refine rf_aload_n C dX7_position_0 rfl 0 rfl ?_
  refine rf_get C (v := .int (s0.1 3 3)) cfX7 flX7_26 (by decide) oX7 rfl dX7_position_1 ?_
  exact rf_iret C dX7_position_4

def fX11_load (n : Nat) (s0 : PH) : Option (Int32 × PH) :=
(bd (fX7_read n s0) fun _ (s1 : PH) =>
(bd (fX7_kind s1) fun (r3 : Int32) (s2 : PH) =>
(if r3 = (-9 : Int32) then
(lt (s2.2.2 0 8) fun (g4 : Nat) =>
(bd (fX5_remember n g4 s2) fun (g6 : Nat) (s5 : PH) =>
(bd (fX7_exchange g6 s5) fun (g8 : Nat) (s7 : PH) =>
(lt (sg s7 0 8 g8) fun (s9 : PH) =>
(bd (fX11_study n s9) fun _ (s10 : PH) =>
(lt (s10.2.2 0 8) fun (g11 : Nat) =>
(bd (fX4_count g11 s10) fun (r13 : Int32) (s12 : PH) =>
(some (r13, s12)))))))))
else
(bd (fX7_position s2) fun (r15 : Int32) (s14 : PH) =>
(some (((-10 : Int32) - r15), s14))))))
set_option maxRecDepth 20000 in
set_option maxHeartbeats 2000000 in
theorem mX11_load (l : Launch) (n : Nat) (s0 : PH) : Cti 148 l yX11_load cX11_load 1 (some .int) (rmOf 7 161) (fun E => [.ref (E.2.1 0)]) s0 (fX11_load n s0) := by
  refine Cti.of (by decide) rfl (lv := fun E => [(0, .ref (E.2.1 0))]) (fun _ => Nat.le_of_ble_eq_true rfl) (fun _ => rfl) (fun Γ hΓ _ C => ?_)
  subst hΓ
  unfold fX11_load
  refine rf_aload_n C dX11_load_0 rfl 0 rfl ?_
  refine rf_get C (v := .ref ((gE Γ).2.1 3)) cfX11 flX11_19 (by decide) oX11 rfl dX11_load_1 ?_
  refine rf_aload_n C dX11_load_4 rfl 0 rfl ?_
  refine rf_get C (v := .ref ((gE Γ).2.1 1)) cfX11 flX11_10 (by decide) oX11 rfl dX11_load_5 ?_
  refine rf_callVv C (rmc := rmOf 5 107) [.ref ((gE Γ).2.1 1)] (by decide) (mX7_read (gL Γ) n s0) mfX7_read mvX7_read mlX11_93 rfl oX7 rfl rfl rfl (Nat.le_of_ble_eq_true rfl) ⟨Nat.le_of_ble_eq_true rfl, Nat.le_of_ble_eq_true rfl⟩ dX11_load_8 (fun s1 => ?_)
  refine rf_aload_n C dX11_load_11 rfl 0 rfl ?_
  refine rf_get C (v := .ref ((gE Γ).2.1 3)) cfX11 flX11_19 (by decide) oX11 rfl dX11_load_12 ?_
  refine rf_callVi C (rmc := rmOf 0 0) [] (by decide) (mX7_kind (gL Γ) s1) mfX7_kind mvX7_kind mlX11_97 rfl oX7 rfl rfl rfl (Nat.le_of_ble_eq_true rfl) ⟨Nat.le_of_ble_eq_true rfl, Nat.le_of_ble_eq_true rfl⟩ dX11_load_15 (fun r3 s2 => ?_)
  refine rf_bipush C (v := (-9 : Int32)) dX11_load_18 rfl ?_
  refine rf_icmp_eq C 34 dX11_load_20 (by decide) (fun _ => ?_) (fun _ => ?_)
  · refine rf_aload_n C dX11_load_34 rfl 0 rfl ?_
    refine rf_aload_n C dX11_load_35 rfl 0 rfl ?_
    refine rf_get C (v := .ref ((gE Γ).2.1 3)) cfX11 flX11_19 (by decide) oX11 rfl dX11_load_36 ?_
    refine rf_aload_n C dX11_load_39 rfl 0 rfl ?_
    refine rf_get C (v := .ref ((gE Γ).2.1 5)) cfX11 flX11_26 (by decide) oX11 rfl dX11_load_40 ?_
    refine rf_aload_n C dX11_load_43 rfl 0 rfl ?_
    refine rf_getG C cfX11 flX11_68 (by decide) oX11 (fun _ _ _ _ => rfl) dX11_load_44 (fun g4 hg4 => ?_)
    refine rf_callVg C (rmc := rmOf 0 0) [.ref ((gE Γ).2.1 (gId g4 0))] (by decide) (mX5_remember (gL Γ) n g4 s2 hg4) mfX5_remember mvX5_remember mlX11_103 rfl oX5 rfl rfl rfl (Nat.le_of_ble_eq_true rfl) ⟨Nat.le_of_ble_eq_true rfl, Nat.le_of_ble_eq_true rfl⟩ dX11_load_47 (fun g6 s5 hg6 => ?_)
    refine rf_callVg C (rmc := rmOf 0 0) [.ref ((gE Γ).2.1 (gId g6 0))] (by decide) (mX7_exchange (gL Γ) g6 s5 hg6) mfX7_exchange mvX7_exchange mlX11_107 rfl oX7 rfl rfl rfl (Nat.le_of_ble_eq_true rfl) ⟨Nat.le_of_ble_eq_true rfl, Nat.le_of_ble_eq_true rfl⟩ dX11_load_50 (fun g8 s7 hg8 => ?_)
    refine rf_putG C hg8 cfX11 flX11_68 (by decide) rfl oX11 rfl (fun _ _ _ _ => Nat.le_of_ble_eq_true rfl) (fun _ _ _ _ => rfl) dX11_load_53 (fun s9 => ?_)
    refine rf_aload_n C dX11_load_56 rfl 0 rfl ?_
    refine rf_callVv C (rmc := rmOf 6 141) [] (by decide) (mX11_study (gL Γ) n s9) mfX11_study mvX11_study mlX11_76 rfl oX11 rfl rfl rfl (Nat.le_of_ble_eq_true rfl) ⟨Nat.le_of_ble_eq_true rfl, Nat.le_of_ble_eq_true rfl⟩ dX11_load_57 (fun s10 => ?_)
    refine rf_aload_n C dX11_load_60 rfl 0 rfl ?_
    refine rf_getG C cfX11 flX11_68 (by decide) oX11 (fun _ _ _ _ => rfl) dX11_load_61 (fun g11 hg11 => ?_)
    refine rf_callVi C (rmc := rmOf 0 0) [] (by decide) (mX4_count (gL Γ) g11 s10 hg11) mfX4_count mvX4_count mlX11_110 rfl (oX4 hg11) rfl rfl rfl (Nat.le_of_ble_eq_true rfl) ⟨Nat.le_of_ble_eq_true rfl, Nat.le_of_ble_eq_true rfl⟩ dX11_load_64 (fun r13 s12 => ?_)
    exact rf_iret C dX11_load_67
  refine rf_bipush C (v := (-10 : Int32)) dX11_load_23 rfl ?_
  refine rf_aload_n C dX11_load_25 rfl 0 rfl ?_
  refine rf_get C (v := .ref ((gE Γ).2.1 3)) cfX11 flX11_19 (by decide) oX11 rfl dX11_load_26 ?_
  refine rf_callVi C (rmc := rmOf 0 0) [] (by decide) (mX7_position (gL Γ) s2) mfX7_position mvX7_position mlX11_100 rfl oX7 rfl rfl rfl (Nat.le_of_ble_eq_true rfl) ⟨Nat.le_of_ble_eq_true rfl, Nat.le_of_ble_eq_true rfl⟩ dX11_load_29 (fun r15 s14 => ?_)
  refine rf_isub C dX11_load_32 ?_
  exact rf_iret C dX11_load_33

def fX11_fault (s0 : PH) : Option (Int32 × PH) :=
(bd (fX7_kind s0) fun (r2 : Int32) (s1 : PH) =>
(some (r2, s1)))
set_option maxRecDepth 20000 in
set_option maxHeartbeats 2000000 in
theorem mX11_fault (l : Launch) (s0 : PH) : Cti 148 l yX11_fault cX11_fault 1 (some .int) (rmOf 1 20) (fun E => [.ref (E.2.1 0)]) s0 (fX11_fault s0) := by
  refine Cti.of (by decide) rfl (lv := fun E => [(0, .ref (E.2.1 0))]) (fun _ => Nat.le_of_ble_eq_true rfl) (fun _ => rfl) (fun Γ hΓ _ C => ?_)
  subst hΓ
  unfold fX11_fault
  refine rf_aload_n C dX11_fault_0 rfl 0 rfl ?_
  refine rf_get C (v := .ref ((gE Γ).2.1 3)) cfX11 flX11_19 (by decide) oX11 rfl dX11_fault_1 ?_
  refine rf_callVi C (rmc := rmOf 0 0) [] (by decide) (mX7_kind (gL Γ) s0) mfX7_kind mvX7_kind mlX11_97 rfl oX7 rfl rfl rfl (Nat.le_of_ble_eq_true rfl) ⟨Nat.le_of_ble_eq_true rfl, Nat.le_of_ble_eq_true rfl⟩ dX11_fault_4 (fun r2 s1 => ?_)
  exact rf_iret C dX11_fault_7

def fX4_has (t : Nat) (a1 : Int32) (s0 : PH) : Option (Int32 × PH) :=
(if a1 < 0 then
(some ((nI 0), s0))
else
(if (s0.1 (gId t 0) 5) ≤ a1 then
(some ((nI 0), s0))
else
(some ((nI 1), s0))))
set_option maxRecDepth 20000 in
set_option maxHeartbeats 2000000 in
theorem mX4_has (l : Launch) (t : Nat) (a1 : Int32) (s0 : PH) (ht : t < 6) : Cti 148 l yX4_has cX4_has 2 (some .boolean) (rmOf 0 0) (fun E => [.ref (E.2.1 (gId t 0)), .int a1]) s0 (fX4_has t a1 s0) := by
  refine Cti.of (by decide) rfl (lv := fun E => [(0, .ref (E.2.1 (gId t 0))), (1, .int a1)]) (fun _ => Nat.le_of_ble_eq_true rfl) (fun _ => rfl) (fun Γ hΓ _ C => ?_)
  subst hΓ
  unfold fX4_has
  refine rf_iload_n C dX4_has_0 rfl 1 rfl ?_
  refine rf_if_lt C 16 dX4_has_1 (by decide) (fun _ => ?_) (fun _ => ?_)
  · refine rf_iconst C (v := (nI 0)) dX4_has_16 rfl ?_
    exact rf_zret C rfl dX4_has_17
  refine rf_iload_n C dX4_has_4 rfl 1 rfl ?_
  refine rf_aload_n C dX4_has_5 rfl 0 rfl ?_
  refine rf_get C (v := .int (s0.1 (gId t 0) 5)) cfX4 flX4_27 (by decide) (oX4 ht) rfl dX4_has_6 ?_
  refine rf_icmp_ge C 16 dX4_has_9 (by decide) (fun _ => ?_) (fun _ => ?_)
  · refine rf_iconst C (v := (nI 0)) dX4_has_16 rfl ?_
    exact rf_zret C rfl dX4_has_17
  refine rf_iconst C (v := (nI 1)) dX4_has_12 rfl ?_
  refine rf_goto C 17 dX4_has_13 (by decide) ?_
  exact rf_zret C rfl dX4_has_17

def fX11_production (a1 : Int32) (a2 : Int32) (s0 : PH) : Option (Int32 × PH) :=
(lt (s0.2.2 0 8) fun (g1 : Nat) =>
(bd (fX4_has g1 a1 s0) fun (r3 : Int32) (s2 : PH) =>
(if r3 = 0 then
(some ((-1 : Int32), s2))
else
(if a2 < 0 then
(some ((-1 : Int32), s2))
else
(if a2 ≤ (nI 1) then
(if a2 = 0 then
(lt (s2.2.2 0 8) fun (g7 : Nat) =>
(bd (fX4_left g7 a1 s2) fun (r9 : Int32) (s8 : PH) =>
(some (r9, s8))))
else
(lt (s2.2.2 0 8) fun (g4 : Nat) =>
(bd (fX4_length g4 a1 s2) fun (r6 : Int32) (s5 : PH) =>
(some (r6, s5)))))
else
(some ((-1 : Int32), s2)))))))
set_option maxRecDepth 20000 in
set_option maxHeartbeats 2000000 in
theorem mX11_production (l : Launch) (a1 : Int32) (a2 : Int32) (s0 : PH) : Cti 148 l yX11_production cX11_production 3 (some .int) (rmOf 1 21) (fun E => [.ref (E.2.1 0), .int a1, .int a2]) s0 (fX11_production a1 a2 s0) := by
  refine Cti.of (by decide) rfl (lv := fun E => [(0, .ref (E.2.1 0)), (1, .int a1), (2, .int a2)]) (fun _ => Nat.le_of_ble_eq_true rfl) (fun _ => rfl) (fun Γ hΓ _ C => ?_)
  subst hΓ
  unfold fX11_production
  refine rf_aload_n C dX11_production_0 rfl 0 rfl ?_
  refine rf_getG C cfX11 flX11_68 (by decide) oX11 (fun _ _ _ _ => rfl) dX11_production_1 (fun g1 hg1 => ?_)
  refine rf_iload_n C dX11_production_4 rfl 1 rfl ?_
  refine rf_callVi C (rmc := rmOf 0 0) [.int a1] (by decide) (mX4_has (gL Γ) g1 a1 s0 hg1) mfX4_has mvX4_has mlX11_113 rfl (oX4 hg1) rfl rfl rfl (Nat.le_of_ble_eq_true rfl) ⟨Nat.le_of_ble_eq_true rfl, Nat.le_of_ble_eq_true rfl⟩ dX11_production_5 (fun r3 s2 => ?_)
  refine rf_if_eq C 20 dX11_production_8 (by decide) (fun _ => ?_) (fun _ => ?_)
  · refine rf_iconst C (v := (-1 : Int32)) dX11_production_20 rfl ?_
    exact rf_iret C dX11_production_21
  refine rf_iload_n C dX11_production_11 rfl 2 rfl ?_
  refine rf_if_lt C 20 dX11_production_12 (by decide) (fun _ => ?_) (fun _ => ?_)
  · refine rf_iconst C (v := (-1 : Int32)) dX11_production_20 rfl ?_
    exact rf_iret C dX11_production_21
  refine rf_iload_n C dX11_production_15 rfl 2 rfl ?_
  refine rf_iconst C (v := (nI 1)) dX11_production_16 rfl ?_
  refine rf_icmp_le C 22 dX11_production_17 (by decide) (fun _ => ?_) (fun _ => ?_)
  · refine rf_iload_n C dX11_production_22 rfl 2 rfl ?_
    refine rf_if_ne C 37 dX11_production_23 (by decide) (fun _ => ?_) (fun _ => ?_)
    · refine rf_aload_n C dX11_production_37 rfl 0 rfl ?_
      refine rf_getG C cfX11 flX11_68 (by decide) oX11 (fun _ _ _ _ => rfl) dX11_production_38 (fun g4 hg4 => ?_)
      refine rf_iload_n C dX11_production_41 rfl 1 rfl ?_
      refine rf_callVi C (rmc := rmOf 0 0) [.int a1] (by decide) (mX4_length (gL Γ) g4 a1 s2 hg4) mfX4_length mvX4_length mlX11_120 rfl (oX4 hg4) rfl rfl rfl (Nat.le_of_ble_eq_true rfl) ⟨Nat.le_of_ble_eq_true rfl, Nat.le_of_ble_eq_true rfl⟩ dX11_production_42 (fun r6 s5 => ?_)
      exact rf_iret C dX11_production_45
    refine rf_aload_n C dX11_production_26 rfl 0 rfl ?_
    refine rf_getG C cfX11 flX11_68 (by decide) oX11 (fun _ _ _ _ => rfl) dX11_production_27 (fun g7 hg7 => ?_)
    refine rf_iload_n C dX11_production_30 rfl 1 rfl ?_
    refine rf_callVi C (rmc := rmOf 0 0) [.int a1] (by decide) (mX4_left (gL Γ) g7 a1 s2 hg7) mfX4_left mvX4_left mlX11_116 rfl (oX4 hg7) rfl rfl rfl (Nat.le_of_ble_eq_true rfl) ⟨Nat.le_of_ble_eq_true rfl, Nat.le_of_ble_eq_true rfl⟩ dX11_production_31 (fun r9 s8 => ?_)
    refine rf_goto C 45 dX11_production_34 (by decide) ?_
    exact rf_iret C dX11_production_45
  refine rf_iconst C (v := (-1 : Int32)) dX11_production_20 rfl ?_
  exact rf_iret C dX11_production_21

def fX11_symbol (a1 : Int32) (a2 : Int32) (s0 : PH) : Option (Int32 × PH) :=
(lt (s0.2.2 0 8) fun (g1 : Nat) =>
(bd (fX4_has g1 a1 s0) fun (r3 : Int32) (s2 : PH) =>
(if r3 = 0 then
(some ((-1 : Int32), s2))
else
(if 0 ≤ a2 then
(lt (s2.2.2 0 8) fun (g4 : Nat) =>
(bd (fX4_length g4 a1 s2) fun (r6 : Int32) (s5 : PH) =>
(if r6 ≤ a2 then
(some ((-9 : Int32), s5))
else
(lt (s5.2.2 0 8) fun (g7 : Nat) =>
(bd (fX4_symbolAt g7 a1 a2 s5) fun (r9 : Int32) (s8 : PH) =>
(some (r9, s8)))))))
else
(some ((-1 : Int32), s2))))))
set_option maxRecDepth 20000 in
set_option maxHeartbeats 2000000 in
theorem mX11_symbol (l : Launch) (a1 : Int32) (a2 : Int32) (s0 : PH) : Cti 148 l yX11_symbol cX11_symbol 3 (some .int) (rmOf 1 22) (fun E => [.ref (E.2.1 0), .int a1, .int a2]) s0 (fX11_symbol a1 a2 s0) := by
  refine Cti.of (by decide) rfl (lv := fun E => [(0, .ref (E.2.1 0)), (1, .int a1), (2, .int a2)]) (fun _ => Nat.le_of_ble_eq_true rfl) (fun _ => rfl) (fun Γ hΓ _ C => ?_)
  subst hΓ
  unfold fX11_symbol
  refine rf_aload_n C dX11_symbol_0 rfl 0 rfl ?_
  refine rf_getG C cfX11 flX11_68 (by decide) oX11 (fun _ _ _ _ => rfl) dX11_symbol_1 (fun g1 hg1 => ?_)
  refine rf_iload_n C dX11_symbol_4 rfl 1 rfl ?_
  refine rf_callVi C (rmc := rmOf 0 0) [.int a1] (by decide) (mX4_has (gL Γ) g1 a1 s0 hg1) mfX4_has mvX4_has mlX11_113 rfl (oX4 hg1) rfl rfl rfl (Nat.le_of_ble_eq_true rfl) ⟨Nat.le_of_ble_eq_true rfl, Nat.le_of_ble_eq_true rfl⟩ dX11_symbol_5 (fun r3 s2 => ?_)
  refine rf_if_eq C 15 dX11_symbol_8 (by decide) (fun _ => ?_) (fun _ => ?_)
  · refine rf_iconst C (v := (-1 : Int32)) dX11_symbol_15 rfl ?_
    exact rf_iret C dX11_symbol_16
  refine rf_iload_n C dX11_symbol_11 rfl 2 rfl ?_
  refine rf_if_ge C 17 dX11_symbol_12 (by decide) (fun _ => ?_) (fun _ => ?_)
  · refine rf_iload_n C dX11_symbol_17 rfl 2 rfl ?_
    refine rf_aload_n C dX11_symbol_18 rfl 0 rfl ?_
    refine rf_getG C cfX11 flX11_68 (by decide) oX11 (fun _ _ _ _ => rfl) dX11_symbol_19 (fun g4 hg4 => ?_)
    refine rf_iload_n C dX11_symbol_22 rfl 1 rfl ?_
    refine rf_callVi C (rmc := rmOf 0 0) [.int a1] (by decide) (mX4_length (gL Γ) g4 a1 s2 hg4) mfX4_length mvX4_length mlX11_120 rfl (oX4 hg4) rfl rfl rfl (Nat.le_of_ble_eq_true rfl) ⟨Nat.le_of_ble_eq_true rfl, Nat.le_of_ble_eq_true rfl⟩ dX11_symbol_23 (fun r6 s5 => ?_)
    refine rf_icmp_ge C 41 dX11_symbol_26 (by decide) (fun _ => ?_) (fun _ => ?_)
    · refine rf_bipush C (v := (-9 : Int32)) dX11_symbol_41 rfl ?_
      exact rf_iret C dX11_symbol_43
    refine rf_aload_n C dX11_symbol_29 rfl 0 rfl ?_
    refine rf_getG C cfX11 flX11_68 (by decide) oX11 (fun _ _ _ _ => rfl) dX11_symbol_30 (fun g7 hg7 => ?_)
    refine rf_iload_n C dX11_symbol_33 rfl 1 rfl ?_
    refine rf_iload_n C dX11_symbol_34 rfl 2 rfl ?_
    refine rf_callVi C (rmc := rmOf 0 0) [.int a1, .int a2] (by decide) (mX4_symbolAt (gL Γ) g7 a1 a2 s5 hg7) mfX4_symbolAt mvX4_symbolAt mlX11_123 rfl (oX4 hg7) rfl rfl rfl (Nat.le_of_ble_eq_true rfl) ⟨Nat.le_of_ble_eq_true rfl, Nat.le_of_ble_eq_true rfl⟩ dX11_symbol_35 (fun r9 s8 => ?_)
    refine rf_goto C 43 dX11_symbol_38 (by decide) ?_
    exact rf_iret C dX11_symbol_43
  refine rf_iconst C (v := (-1 : Int32)) dX11_symbol_15 rfl ?_
  exact rf_iret C dX11_symbol_16

def fX9_fewest (a1 : Int32) (s0 : PH) : Option (Int32 × PH) :=
(ra 6 a1 (s0.1 8) fun (v1 : Int32) =>
(some (v1, s0)))
set_option maxRecDepth 20000 in
set_option maxHeartbeats 2000000 in
theorem mX9_fewest (l : Launch) (a1 : Int32) (s0 : PH) : Cti 148 l yX9_fewest cX9_fewest 2 (some .int) (rmOf 0 0) (fun E => [.ref (E.2.1 7), .int a1]) s0 (fX9_fewest a1 s0) := by
  refine Cti.of (by decide) rfl (lv := fun E => [(0, .ref (E.2.1 7)), (1, .int a1)]) (fun _ => Nat.le_of_ble_eq_true rfl) (fun _ => rfl) (fun Γ hΓ _ C => ?_)
  subst hΓ
  unfold fX9_fewest
  refine rf_aload_n C dX9_fewest_0 rfl 0 rfl ?_
  refine rf_get C (v := .ref ((gE Γ).2.1 8)) cfX9 flX9_9 (by decide) oX9 rfl dX9_fewest_1 ?_
  refine rf_iload_n C dX9_fewest_4 rfl 1 rfl ?_
  refine rf_iald C ar8 dX9_fewest_5 (fun v1 => ?_)
  exact rf_iret C dX9_fewest_6

def fX9_reachable (s0 : PH) : Option (Int32 × PH) :=
(some ((s0.1 7 7), s0))
set_option maxRecDepth 20000 in
set_option maxHeartbeats 2000000 in
theorem mX9_reachable (l : Launch) (s0 : PH) : Cti 148 l yX9_reachable cX9_reachable 1 (some .int) (rmOf 0 0) (fun E => [.ref (E.2.1 7)]) s0 (fX9_reachable s0) := by
  refine Cti.of (by decide) rfl (lv := fun E => [(0, .ref (E.2.1 7))]) (fun _ => Nat.le_of_ble_eq_true rfl) (fun _ => rfl) (fun Γ hΓ _ C => ?_)
  subst hΓ
  unfold fX9_reachable
  refine rf_aload_n C dX9_reachable_0 rfl 0 rfl ?_
  refine rf_get C (v := .int (s0.1 7 7)) cfX9 flX9_34 (by decide) oX9 rfl dX9_reachable_1 ?_
  exact rf_iret C dX9_reachable_4

def fX9_recursive (s0 : PH) : Option (Int32 × PH) :=
(some ((s0.1 7 8), s0))
set_option maxRecDepth 20000 in
set_option maxHeartbeats 2000000 in
theorem mX9_recursive (l : Launch) (s0 : PH) : Cti 148 l yX9_recursive cX9_recursive 1 (some .int) (rmOf 0 0) (fun E => [.ref (E.2.1 7)]) s0 (fX9_recursive s0) := by
  refine Cti.of (by decide) rfl (lv := fun E => [(0, .ref (E.2.1 7))]) (fun _ => Nat.le_of_ble_eq_true rfl) (fun _ => rfl) (fun Γ hΓ _ C => ?_)
  subst hΓ
  unfold fX9_recursive
  refine rf_aload_n C dX9_recursive_0 rfl 0 rfl ?_
  refine rf_get C (v := .int (s0.1 7 8)) cfX9 flX9_37 (by decide) oX9 rfl dX9_recursive_1 ?_
  exact rf_iret C dX9_recursive_4

def fX9_cyclic (s0 : PH) : Option (Int32 × PH) :=
(some ((s0.1 7 9), s0))
set_option maxRecDepth 20000 in
set_option maxHeartbeats 2000000 in
theorem mX9_cyclic (l : Launch) (s0 : PH) : Cti 148 l yX9_cyclic cX9_cyclic 1 (some .int) (rmOf 0 0) (fun E => [.ref (E.2.1 7)]) s0 (fX9_cyclic s0) := by
  refine Cti.of (by decide) rfl (lv := fun E => [(0, .ref (E.2.1 7))]) (fun _ => Nat.le_of_ble_eq_true rfl) (fun _ => rfl) (fun Γ hΓ _ C => ?_)
  subst hΓ
  unfold fX9_cyclic
  refine rf_aload_n C dX9_cyclic_0 rfl 0 rfl ?_
  refine rf_get C (v := .int (s0.1 7 9)) cfX9 flX9_40 (by decide) oX9 rfl dX9_cyclic_1 ?_
  exact rf_iret C dX9_cyclic_4

def fX11_nonterminal (a1 : Int32) (a2 : Int32) (s0 : PH) : Option (Int32 × PH) :=
(if a1 < 0 then
(some ((-1 : Int32), s0))
else
(if (nI 6) ≤ a1 then
(some ((-1 : Int32), s0))
else
(if a2 < 0 then
(some ((-1 : Int32), s0))
else
(if a2 ≤ (nI 7) then
(if a2 = (nI 0) then
(lt (s0.2.2 0 8) fun (g2 : Nat) =>
(bd (fX4_defined g2 s0) fun (r4 : Int32) (s3 : PH) =>
(bd (fX11_bit r4 a1 s3) fun (r6 : Int32) (s5 : PH) =>
(some (r6, s5)))))
else
(if a2 = (nI 1) then
(bd (fX9_fewest a1 s0) fun (r9 : Int32) (s8 : PH) =>
(if r9 = 0 then
(some ((nI 1), s8))
else
(some ((nI 0), s8))))
else
(if a2 = (nI 2) then
(bd (fX9_fewest a1 s0) fun (r12 : Int32) (s11 : PH) =>
(if (nI 1000000) ≤ r12 then
(some ((nI 0), s11))
else
(some ((nI 1), s11))))
else
(if a2 = (nI 3) then
(bd (fX9_reachable s0) fun (r15 : Int32) (s14 : PH) =>
(bd (fX11_bit r15 a1 s14) fun (r17 : Int32) (s16 : PH) =>
(some (r17, s16))))
else
(if a2 = (nI 4) then
(bd (fX9_recursive s0) fun (r20 : Int32) (s19 : PH) =>
(bd (fX11_bit r20 a1 s19) fun (r22 : Int32) (s21 : PH) =>
(some (r22, s21))))
else
(if a2 = (nI 5) then
(bd (fX9_cyclic s0) fun (r25 : Int32) (s24 : PH) =>
(bd (fX11_bit r25 a1 s24) fun (r27 : Int32) (s26 : PH) =>
(some (r27, s26))))
else
(if a2 = (nI 6) then
(lt (s0.2.2 0 8) fun (g29 : Nat) =>
(bd (fX4_end g29 a1 s0) fun (r31 : Int32) (s30 : PH) =>
(lt (s30.2.2 0 8) fun (g32 : Nat) =>
(bd (fX4_begin g32 a1 s30) fun (r34 : Int32) (s33 : PH) =>
(some ((r31 - r34), s33))))))
else
(bd (fX9_fewest a1 s0) fun (r36 : Int32) (s35 : PH) =>
(if (nI 1000000) ≤ r36 then
(some ((-9 : Int32), s35))
else
(bd (fX9_fewest a1 s35) fun (r38 : Int32) (s37 : PH) =>
(some (r38, s37))))))))))))
else
(some ((-1 : Int32), s0))))))
set_option maxRecDepth 20000 in
set_option maxHeartbeats 2000000 in
theorem mX11_nonterminal (l : Launch) (a1 : Int32) (a2 : Int32) (s0 : PH) : Cti 148 l yX11_nonterminal cX11_nonterminal 3 (some .int) (rmOf 1 21) (fun E => [.ref (E.2.1 0), .int a1, .int a2]) s0 (fX11_nonterminal a1 a2 s0) := by
  refine Cti.of (by decide) rfl (lv := fun E => [(0, .ref (E.2.1 0)), (1, .int a1), (2, .int a2)]) (fun _ => Nat.le_of_ble_eq_true rfl) (fun _ => rfl) (fun Γ hΓ _ C => ?_)
  subst hΓ
  unfold fX11_nonterminal
  refine rf_iload_n C dX11_nonterminal_0 rfl 1 rfl ?_
  refine rf_if_lt C 20 dX11_nonterminal_1 (by decide) (fun _ => ?_) (fun _ => ?_)
  · refine rf_iconst C (v := (-1 : Int32)) dX11_nonterminal_20 rfl ?_
    exact rf_iret C dX11_nonterminal_21
  refine rf_iload_n C dX11_nonterminal_4 rfl 1 rfl ?_
  refine rf_bipush C (v := (nI 6)) dX11_nonterminal_5 rfl ?_
  refine rf_icmp_ge C 20 dX11_nonterminal_7 (by decide) (fun _ => ?_) (fun _ => ?_)
  · refine rf_iconst C (v := (-1 : Int32)) dX11_nonterminal_20 rfl ?_
    exact rf_iret C dX11_nonterminal_21
  refine rf_iload_n C dX11_nonterminal_10 rfl 2 rfl ?_
  refine rf_if_lt C 20 dX11_nonterminal_11 (by decide) (fun _ => ?_) (fun _ => ?_)
  · refine rf_iconst C (v := (-1 : Int32)) dX11_nonterminal_20 rfl ?_
    exact rf_iret C dX11_nonterminal_21
  refine rf_iload_n C dX11_nonterminal_14 rfl 2 rfl ?_
  refine rf_bipush C (v := (nI 7)) dX11_nonterminal_15 rfl ?_
  refine rf_icmp_le C 22 dX11_nonterminal_17 (by decide) (fun _ => ?_) (fun _ => ?_)
  · refine rf_iload_n C dX11_nonterminal_22 rfl 2 rfl ?_
    refine rf_ite (fun hk1 => ?_) (fun hk1 => ?_)
    · refine rf_swIn C 64 dX11_nonterminal_23 (by rw [hk1]; decide) (by rw [hk1]; decide) (by rw [hk1]; rfl) (by decide) ?_
      refine rf_aload_n C dX11_nonterminal_64 rfl 0 rfl ?_
      refine rf_getG C cfX11 flX11_68 (by decide) oX11 (fun _ _ _ _ => rfl) dX11_nonterminal_65 (fun g2 hg2 => ?_)
      refine rf_callVi C (rmc := rmOf 0 0) [] (by decide) (mX4_defined (gL Γ) g2 s0 hg2) mfX4_defined mvX4_defined mlX11_127 rfl (oX4 hg2) rfl rfl rfl (Nat.le_of_ble_eq_true rfl) ⟨Nat.le_of_ble_eq_true rfl, Nat.le_of_ble_eq_true rfl⟩ dX11_nonterminal_68 (fun r4 s3 => ?_)
      refine rf_iload_n C dX11_nonterminal_71 rfl 1 rfl ?_
      refine rf_callSi C (rmc := rmOf 0 0) [.int r4, .int a1] (by decide) (mX11_bit (gL Γ) r4 a1 s3) mfX11_bit msX11_bit mlX11_130 rfl rfl rfl (Nat.le_of_ble_eq_true rfl) ⟨Nat.le_of_ble_eq_true rfl, Nat.le_of_ble_eq_true rfl⟩ dX11_nonterminal_72 (fun r6 s5 => ?_)
      exact rf_iret C dX11_nonterminal_75
    refine rf_ite (fun hk7 => ?_) (fun hk7 => ?_)
    · refine rf_swIn C 76 dX11_nonterminal_23 (by rw [hk7]; decide) (by rw [hk7]; decide) (by rw [hk7]; rfl) (by decide) ?_
      refine rf_aload_n C dX11_nonterminal_76 rfl 0 rfl ?_
      refine rf_get C (v := .ref ((gE Γ).2.1 7)) cfX11 flX11_33 (by decide) oX11 rfl dX11_nonterminal_77 ?_
      refine rf_iload_n C dX11_nonterminal_80 rfl 1 rfl ?_
      refine rf_callVi C (rmc := rmOf 0 0) [.int a1] (by decide) (mX9_fewest (gL Γ) a1 s0) mfX9_fewest mvX9_fewest mlX11_133 rfl oX9 rfl rfl rfl (Nat.le_of_ble_eq_true rfl) ⟨Nat.le_of_ble_eq_true rfl, Nat.le_of_ble_eq_true rfl⟩ dX11_nonterminal_81 (fun r9 s8 => ?_)
      refine rf_if_ne C 91 dX11_nonterminal_84 (by decide) (fun _ => ?_) (fun _ => ?_)
      · refine rf_iconst C (v := (nI 0)) dX11_nonterminal_91 rfl ?_
        exact rf_iret C dX11_nonterminal_92
      refine rf_iconst C (v := (nI 1)) dX11_nonterminal_87 rfl ?_
      refine rf_goto C 92 dX11_nonterminal_88 (by decide) ?_
      exact rf_iret C dX11_nonterminal_92
    refine rf_ite (fun hk10 => ?_) (fun hk10 => ?_)
    · refine rf_swIn C 93 dX11_nonterminal_23 (by rw [hk10]; decide) (by rw [hk10]; decide) (by rw [hk10]; rfl) (by decide) ?_
      refine rf_aload_n C dX11_nonterminal_93 rfl 0 rfl ?_
      refine rf_get C (v := .ref ((gE Γ).2.1 7)) cfX11 flX11_33 (by decide) oX11 rfl dX11_nonterminal_94 ?_
      refine rf_iload_n C dX11_nonterminal_97 rfl 1 rfl ?_
      refine rf_callVi C (rmc := rmOf 0 0) [.int a1] (by decide) (mX9_fewest (gL Γ) a1 s0) mfX9_fewest mvX9_fewest mlX11_133 rfl oX9 rfl rfl rfl (Nat.le_of_ble_eq_true rfl) ⟨Nat.le_of_ble_eq_true rfl, Nat.le_of_ble_eq_true rfl⟩ dX11_nonterminal_98 (fun r12 s11 => ?_)
      refine rf_ldc C dX11_nonterminal_101 kiX11_136 ?_
      refine rf_icmp_ge C 110 dX11_nonterminal_103 (by decide) (fun _ => ?_) (fun _ => ?_)
      · refine rf_iconst C (v := (nI 0)) dX11_nonterminal_110 rfl ?_
        exact rf_iret C dX11_nonterminal_111
      refine rf_iconst C (v := (nI 1)) dX11_nonterminal_106 rfl ?_
      refine rf_goto C 111 dX11_nonterminal_107 (by decide) ?_
      exact rf_iret C dX11_nonterminal_111
    refine rf_ite (fun hk13 => ?_) (fun hk13 => ?_)
    · refine rf_swIn C 112 dX11_nonterminal_23 (by rw [hk13]; decide) (by rw [hk13]; decide) (by rw [hk13]; rfl) (by decide) ?_
      refine rf_aload_n C dX11_nonterminal_112 rfl 0 rfl ?_
      refine rf_get C (v := .ref ((gE Γ).2.1 7)) cfX11 flX11_33 (by decide) oX11 rfl dX11_nonterminal_113 ?_
      refine rf_callVi C (rmc := rmOf 0 0) [] (by decide) (mX9_reachable (gL Γ) s0) mfX9_reachable mvX9_reachable mlX11_137 rfl oX9 rfl rfl rfl (Nat.le_of_ble_eq_true rfl) ⟨Nat.le_of_ble_eq_true rfl, Nat.le_of_ble_eq_true rfl⟩ dX11_nonterminal_116 (fun r15 s14 => ?_)
      refine rf_iload_n C dX11_nonterminal_119 rfl 1 rfl ?_
      refine rf_callSi C (rmc := rmOf 0 0) [.int r15, .int a1] (by decide) (mX11_bit (gL Γ) r15 a1 s14) mfX11_bit msX11_bit mlX11_130 rfl rfl rfl (Nat.le_of_ble_eq_true rfl) ⟨Nat.le_of_ble_eq_true rfl, Nat.le_of_ble_eq_true rfl⟩ dX11_nonterminal_120 (fun r17 s16 => ?_)
      exact rf_iret C dX11_nonterminal_123
    refine rf_ite (fun hk18 => ?_) (fun hk18 => ?_)
    · refine rf_swIn C 124 dX11_nonterminal_23 (by rw [hk18]; decide) (by rw [hk18]; decide) (by rw [hk18]; rfl) (by decide) ?_
      refine rf_aload_n C dX11_nonterminal_124 rfl 0 rfl ?_
      refine rf_get C (v := .ref ((gE Γ).2.1 7)) cfX11 flX11_33 (by decide) oX11 rfl dX11_nonterminal_125 ?_
      refine rf_callVi C (rmc := rmOf 0 0) [] (by decide) (mX9_recursive (gL Γ) s0) mfX9_recursive mvX9_recursive mlX11_140 rfl oX9 rfl rfl rfl (Nat.le_of_ble_eq_true rfl) ⟨Nat.le_of_ble_eq_true rfl, Nat.le_of_ble_eq_true rfl⟩ dX11_nonterminal_128 (fun r20 s19 => ?_)
      refine rf_iload_n C dX11_nonterminal_131 rfl 1 rfl ?_
      refine rf_callSi C (rmc := rmOf 0 0) [.int r20, .int a1] (by decide) (mX11_bit (gL Γ) r20 a1 s19) mfX11_bit msX11_bit mlX11_130 rfl rfl rfl (Nat.le_of_ble_eq_true rfl) ⟨Nat.le_of_ble_eq_true rfl, Nat.le_of_ble_eq_true rfl⟩ dX11_nonterminal_132 (fun r22 s21 => ?_)
      exact rf_iret C dX11_nonterminal_135
    refine rf_ite (fun hk23 => ?_) (fun hk23 => ?_)
    · refine rf_swIn C 136 dX11_nonterminal_23 (by rw [hk23]; decide) (by rw [hk23]; decide) (by rw [hk23]; rfl) (by decide) ?_
      refine rf_aload_n C dX11_nonterminal_136 rfl 0 rfl ?_
      refine rf_get C (v := .ref ((gE Γ).2.1 7)) cfX11 flX11_33 (by decide) oX11 rfl dX11_nonterminal_137 ?_
      refine rf_callVi C (rmc := rmOf 0 0) [] (by decide) (mX9_cyclic (gL Γ) s0) mfX9_cyclic mvX9_cyclic mlX11_143 rfl oX9 rfl rfl rfl (Nat.le_of_ble_eq_true rfl) ⟨Nat.le_of_ble_eq_true rfl, Nat.le_of_ble_eq_true rfl⟩ dX11_nonterminal_140 (fun r25 s24 => ?_)
      refine rf_iload_n C dX11_nonterminal_143 rfl 1 rfl ?_
      refine rf_callSi C (rmc := rmOf 0 0) [.int r25, .int a1] (by decide) (mX11_bit (gL Γ) r25 a1 s24) mfX11_bit msX11_bit mlX11_130 rfl rfl rfl (Nat.le_of_ble_eq_true rfl) ⟨Nat.le_of_ble_eq_true rfl, Nat.le_of_ble_eq_true rfl⟩ dX11_nonterminal_144 (fun r27 s26 => ?_)
      exact rf_iret C dX11_nonterminal_147
    refine rf_ite (fun hk28 => ?_) (fun hk28 => ?_)
    · refine rf_swIn C 148 dX11_nonterminal_23 (by rw [hk28]; decide) (by rw [hk28]; decide) (by rw [hk28]; rfl) (by decide) ?_
      refine rf_aload_n C dX11_nonterminal_148 rfl 0 rfl ?_
      refine rf_getG C cfX11 flX11_68 (by decide) oX11 (fun _ _ _ _ => rfl) dX11_nonterminal_149 (fun g29 hg29 => ?_)
      refine rf_iload_n C dX11_nonterminal_152 rfl 1 rfl ?_
      refine rf_callVi C (rmc := rmOf 0 0) [.int a1] (by decide) (mX4_end (gL Γ) g29 a1 s0 hg29) mfX4_end mvX4_end mlX11_146 rfl (oX4 hg29) rfl rfl rfl (Nat.le_of_ble_eq_true rfl) ⟨Nat.le_of_ble_eq_true rfl, Nat.le_of_ble_eq_true rfl⟩ dX11_nonterminal_153 (fun r31 s30 => ?_)
      refine rf_aload_n C dX11_nonterminal_156 rfl 0 rfl ?_
      refine rf_getG C cfX11 flX11_68 (by decide) oX11 (fun _ _ _ _ => rfl) dX11_nonterminal_157 (fun g32 hg32 => ?_)
      refine rf_iload_n C dX11_nonterminal_160 rfl 1 rfl ?_
      refine rf_callVi C (rmc := rmOf 0 0) [.int a1] (by decide) (mX4_begin (gL Γ) g32 a1 s30 hg32) mfX4_begin mvX4_begin mlX11_149 rfl (oX4 hg32) rfl rfl rfl (Nat.le_of_ble_eq_true rfl) ⟨Nat.le_of_ble_eq_true rfl, Nat.le_of_ble_eq_true rfl⟩ dX11_nonterminal_161 (fun r34 s33 => ?_)
      refine rf_isub C dX11_nonterminal_164 ?_
      exact rf_iret C dX11_nonterminal_165
    refine rf_swOut C 166 dX11_nonterminal_23 (by have nhk1 := lv_neT hk1 (show (nI 0).toInt = 0 from rfl); have nhk7 := lv_neT hk7 (show (nI 1).toInt = 1 from rfl); have nhk10 := lv_neT hk10 (show (nI 2).toInt = 2 from rfl); have nhk13 := lv_neT hk13 (show (nI 3).toInt = 3 from rfl); have nhk18 := lv_neT hk18 (show (nI 4).toInt = 4 from rfl); have nhk23 := lv_neT hk23 (show (nI 5).toInt = 5 from rfl); have nhk28 := lv_neT hk28 (show (nI 6).toInt = 6 from rfl); omega) (by decide) ?_
    refine rf_aload_n C dX11_nonterminal_166 rfl 0 rfl ?_
    refine rf_get C (v := .ref ((gE Γ).2.1 7)) cfX11 flX11_33 (by decide) oX11 rfl dX11_nonterminal_167 ?_
    refine rf_iload_n C dX11_nonterminal_170 rfl 1 rfl ?_
    refine rf_callVi C (rmc := rmOf 0 0) [.int a1] (by decide) (mX9_fewest (gL Γ) a1 s0) mfX9_fewest mvX9_fewest mlX11_133 rfl oX9 rfl rfl rfl (Nat.le_of_ble_eq_true rfl) ⟨Nat.le_of_ble_eq_true rfl, Nat.le_of_ble_eq_true rfl⟩ dX11_nonterminal_171 (fun r36 s35 => ?_)
    refine rf_ldc C dX11_nonterminal_174 kiX11_136 ?_
    refine rf_icmp_ge C 190 dX11_nonterminal_176 (by decide) (fun _ => ?_) (fun _ => ?_)
    · refine rf_bipush C (v := (-9 : Int32)) dX11_nonterminal_190 rfl ?_
      exact rf_iret C dX11_nonterminal_192
    refine rf_aload_n C dX11_nonterminal_179 rfl 0 rfl ?_
    refine rf_get C (v := .ref ((gE Γ).2.1 7)) cfX11 flX11_33 (by decide) oX11 rfl dX11_nonterminal_180 ?_
    refine rf_iload_n C dX11_nonterminal_183 rfl 1 rfl ?_
    refine rf_callVi C (rmc := rmOf 0 0) [.int a1] (by decide) (mX9_fewest (gL Γ) a1 s35) mfX9_fewest mvX9_fewest mlX11_133 rfl oX9 rfl rfl rfl (Nat.le_of_ble_eq_true rfl) ⟨Nat.le_of_ble_eq_true rfl, Nat.le_of_ble_eq_true rfl⟩ dX11_nonterminal_184 (fun r38 s37 => ?_)
    refine rf_goto C 192 dX11_nonterminal_187 (by decide) ?_
    exact rf_iret C dX11_nonterminal_192
  refine rf_iconst C (v := (-1 : Int32)) dX11_nonterminal_20 rfl ?_
  exact rf_iret C dX11_nonterminal_21

def fX11_isDefined (a1 : Int32) (s0 : PH) : Option (Int32 × PH) :=
(if a1 < 0 then
(some ((nI 0), s0))
else
(if (nI 6) ≤ a1 then
(some ((nI 0), s0))
else
(lt (s0.2.2 0 8) fun (g1 : Nat) =>
(bd (fX4_defined g1 s0) fun (r3 : Int32) (s2 : PH) =>
(bd (fX11_bit r3 a1 s2) fun (r5 : Int32) (s4 : PH) =>
(if r5 = (nI 1) then
(some ((nI 1), s4))
else
(some ((nI 0), s4))))))))
set_option maxRecDepth 20000 in
set_option maxHeartbeats 2000000 in
theorem mX11_isDefined (l : Launch) (a1 : Int32) (s0 : PH) : Cti 148 l yX11_isDefined cX11_isDefined 2 (some .boolean) (rmOf 1 21) (fun E => [.ref (E.2.1 0), .int a1]) s0 (fX11_isDefined a1 s0) := by
  refine Cti.of (by decide) rfl (lv := fun E => [(0, .ref (E.2.1 0)), (1, .int a1)]) (fun _ => Nat.le_of_ble_eq_true rfl) (fun _ => rfl) (fun Γ hΓ _ C => ?_)
  subst hΓ
  unfold fX11_isDefined
  refine rf_iload_n C dX11_isDefined_0 rfl 1 rfl ?_
  refine rf_if_lt C 29 dX11_isDefined_1 (by decide) (fun _ => ?_) (fun _ => ?_)
  · refine rf_iconst C (v := (nI 0)) dX11_isDefined_29 rfl ?_
    exact rf_zret C rfl dX11_isDefined_30
  refine rf_iload_n C dX11_isDefined_4 rfl 1 rfl ?_
  refine rf_bipush C (v := (nI 6)) dX11_isDefined_5 rfl ?_
  refine rf_icmp_ge C 29 dX11_isDefined_7 (by decide) (fun _ => ?_) (fun _ => ?_)
  · refine rf_iconst C (v := (nI 0)) dX11_isDefined_29 rfl ?_
    exact rf_zret C rfl dX11_isDefined_30
  refine rf_aload_n C dX11_isDefined_10 rfl 0 rfl ?_
  refine rf_getG C cfX11 flX11_68 (by decide) oX11 (fun _ _ _ _ => rfl) dX11_isDefined_11 (fun g1 hg1 => ?_)
  refine rf_callVi C (rmc := rmOf 0 0) [] (by decide) (mX4_defined (gL Γ) g1 s0 hg1) mfX4_defined mvX4_defined mlX11_127 rfl (oX4 hg1) rfl rfl rfl (Nat.le_of_ble_eq_true rfl) ⟨Nat.le_of_ble_eq_true rfl, Nat.le_of_ble_eq_true rfl⟩ dX11_isDefined_14 (fun r3 s2 => ?_)
  refine rf_iload_n C dX11_isDefined_17 rfl 1 rfl ?_
  refine rf_callSi C (rmc := rmOf 0 0) [.int r3, .int a1] (by decide) (mX11_bit (gL Γ) r3 a1 s2) mfX11_bit msX11_bit mlX11_130 rfl rfl rfl (Nat.le_of_ble_eq_true rfl) ⟨Nat.le_of_ble_eq_true rfl, Nat.le_of_ble_eq_true rfl⟩ dX11_isDefined_18 (fun r5 s4 => ?_)
  refine rf_iconst C (v := (nI 1)) dX11_isDefined_21 rfl ?_
  refine rf_icmp_ne C 29 dX11_isDefined_22 (by decide) (fun _ => ?_) (fun _ => ?_)
  · refine rf_iconst C (v := (nI 0)) dX11_isDefined_29 rfl ?_
    exact rf_zret C rfl dX11_isDefined_30
  refine rf_iconst C (v := (nI 1)) dX11_isDefined_25 rfl ?_
  refine rf_goto C 30 dX11_isDefined_26 (by decide) ?_
  exact rf_zret C rfl dX11_isDefined_30

def fX11_isLookahead (a1 : Int32) (s0 : PH) : Option (Int32 × PH) :=
(if a1 < 0 then
(some ((nI 0), s0))
else
(if (nI 3) < a1 then
(some ((nI 0), s0))
else
(some ((nI 1), s0))))
set_option maxRecDepth 20000 in
set_option maxHeartbeats 2000000 in
theorem mX11_isLookahead (l : Launch) (a1 : Int32) (s0 : PH) : Cti 148 l yX11_isLookahead cX11_isLookahead 1 (some .boolean) (rmOf 0 0) (fun E => [.int a1]) s0 (fX11_isLookahead a1 s0) := by
  refine Cti.of (by decide) rfl (lv := fun E => [(0, .int a1)]) (fun _ => Nat.le_of_ble_eq_true rfl) (fun _ => rfl) (fun Γ hΓ _ C => ?_)
  subst hΓ
  unfold fX11_isLookahead
  refine rf_iload_n C dX11_isLookahead_0 rfl 0 rfl ?_
  refine rf_if_lt C 13 dX11_isLookahead_1 (by decide) (fun _ => ?_) (fun _ => ?_)
  · refine rf_iconst C (v := (nI 0)) dX11_isLookahead_13 rfl ?_
    exact rf_zret C rfl dX11_isLookahead_14
  refine rf_iload_n C dX11_isLookahead_4 rfl 0 rfl ?_
  refine rf_iconst C (v := (nI 3)) dX11_isLookahead_5 rfl ?_
  refine rf_icmp_gt C 13 dX11_isLookahead_6 (by decide) (fun _ => ?_) (fun _ => ?_)
  · refine rf_iconst C (v := (nI 0)) dX11_isLookahead_13 rfl ?_
    exact rf_zret C rfl dX11_isLookahead_14
  refine rf_iconst C (v := (nI 1)) dX11_isLookahead_9 rfl ?_
  refine rf_goto C 14 dX11_isLookahead_10 (by decide) ?_
  exact rf_zret C rfl dX11_isLookahead_14

def fX11_isWord (n : Nat) (a1 : Int32) (a2 : Int32) (s0 : PH) : Option (Int32 × PH) :=
(bd (fX11_isLookahead a2 s0) fun (r2 : Int32) (s1 : PH) =>
(if r2 = 0 then
(some ((nI 0), s1))
else
(if a1 < 0 then
(some ((nI 0), s1))
else
(ra 4 a2 lim fun (v3 : Int32) =>
(if a1 < v3 then
(lt a1 fun (v4 : Int32) =>
(lt (nI 0) fun (v5 : Int32) =>
(loo3 (fun (recrec9 : Int32 → Int32 → PH → Option (Int32 × PH)) (v6 : Int32) (v7 : Int32) (s8 : PH) =>
(if (nI 3) ≤ v7 then
(some ((nI 1), s8))
else
(if v6 ≤ 0 then
(some ((nI 1), s8))
else
(if (v6 - v6 / (nI 6) * (nI 6)) = 0 then
(some ((nI 0), s8))
else
(lt (v6 / (nI 6)) fun (v10 : Int32) =>
(lt (v7 + (nI 1)) fun (v11 : Int32) =>
(recrec9 v10 v11 s8))))))) n v4 v5 s1)))
else
(some ((nI 0), s1)))))))
set_option maxRecDepth 20000 in
set_option maxHeartbeats 2000000 in
theorem mX11_isWord (l : Launch) (n : Nat) (a1 : Int32) (a2 : Int32) (s0 : PH) : Cti 148 l yX11_isWord cX11_isWord 4 (some .boolean) (rmOf 1 20) (fun E => [.int a1, .int a2]) s0 (fX11_isWord n a1 a2 s0) := by
  refine Cti.of (by decide) rfl (lv := fun E => [(0, .int a1), (1, .int a2)]) (fun _ => Nat.le_of_ble_eq_true rfl) (fun _ => rfl) (fun Γ hΓ _ C => ?_)
  subst hΓ
  unfold fX11_isWord
  refine rf_iload_n C dX11_isWord_0 rfl 1 rfl ?_
  refine rf_callSi C (rmc := rmOf 0 0) [.int a2] (by decide) (mX11_isLookahead (gL Γ) a2 s0) mfX11_isLookahead msX11_isLookahead mlX11_173 rfl rfl rfl (Nat.le_of_ble_eq_true rfl) ⟨Nat.le_of_ble_eq_true rfl, Nat.le_of_ble_eq_true rfl⟩ dX11_isWord_1 (fun r2 s1 => ?_)
  refine rf_if_eq C 20 dX11_isWord_4 (by decide) (fun _ => ?_) (fun _ => ?_)
  · refine rf_iconst C (v := (nI 0)) dX11_isWord_20 rfl ?_
    exact rf_zret C rfl dX11_isWord_21
  refine rf_iload_n C dX11_isWord_7 rfl 0 rfl ?_
  refine rf_if_lt C 20 dX11_isWord_8 (by decide) (fun _ => ?_) (fun _ => ?_)
  · refine rf_iconst C (v := (nI 0)) dX11_isWord_20 rfl ?_
    exact rf_zret C rfl dX11_isWord_21
  refine rf_iload_n C dX11_isWord_11 rfl 0 rfl ?_
  refine rf_gets C fsX11_178 dX11_isWord_12 ?_
  refine rf_iload_n C dX11_isWord_15 rfl 1 rfl ?_
  refine rf_tald C dX11_isWord_16 (fun v3 => ?_)
  refine rf_icmp_lt C 22 dX11_isWord_17 (by decide) (fun _ => ?_) (fun _ => ?_)
  · refine rf_iload_n C dX11_isWord_22 rfl 0 rfl ?_
    refine rf_istore_n C (fun v4 => [(2, .int v4), (0, .int a1), (1, .int a2)]) dX11_isWord_23 rfl (by decide) (fun _ => rfl) (fun v4 => ?_)
    refine rf_iconst C (v := (nI 0)) dX11_isWord_24 rfl ?_
    refine rf_istore_n C (fun v5 => [(3, .int v5), (2, .int v4), (0, .int a1), (1, .int a2)]) dX11_isWord_25 rfl (by decide) (fun _ => rfl) (fun v5 => ?_)
    refine rf_sub [1, 0] rfl ?_
    refine rf_loo3 (fun _ _ _ => True) (fun _ _ s8 => s8) (fun v6 v7 s8 => [(2, .int v6), (3, .int v7)]) (fun recrec9 hrec9 v6 v7 s8 _ => ?_) n v4 v5 s1 trivial
    refine rf_iload_n C dX11_isWord_26 rfl 1 rfl ?_
    refine rf_iconst C (v := (nI 3)) dX11_isWord_27 rfl ?_
    refine rf_icmp_ge C 55 dX11_isWord_28 (by decide) (fun _ => ?_) (fun _ => ?_)
    · refine rf_iconst C (v := (nI 1)) dX11_isWord_55 rfl ?_
      exact rf_zret C rfl dX11_isWord_56
    refine rf_iload_n C dX11_isWord_31 rfl 0 rfl ?_
    refine rf_if_le C 55 dX11_isWord_32 (by decide) (fun _ => ?_) (fun _ => ?_)
    · refine rf_iconst C (v := (nI 1)) dX11_isWord_55 rfl ?_
      exact rf_zret C rfl dX11_isWord_56
    refine rf_iload_n C dX11_isWord_35 rfl 0 rfl ?_
    refine rf_bipush C (v := (nI 6)) dX11_isWord_36 rfl ?_
    refine rf_irem C dX11_isWord_38 (by decide) ?_
    refine rf_if_ne C 44 dX11_isWord_39 (by decide) (fun _ => ?_) (fun _ => ?_)
    · refine rf_iload_n C dX11_isWord_44 rfl 0 rfl ?_
      refine rf_bipush C (v := (nI 6)) dX11_isWord_45 rfl ?_
      refine rf_idiv C dX11_isWord_47 (by decide) ?_
      refine rf_istore_n C (fun v10 => [(2, .int v10), (3, .int v7)]) dX11_isWord_48 rfl (by decide) (fun _ => rfl) (fun v10 => ?_)
      refine rf_iinc C (fun v11 => [(3, .int v11), (2, .int v10)]) dX11_isWord_49 1 rfl rfl (by decide) (fun _ => rfl) (fun v11 => ?_)
      refine rf_goto C 26 dX11_isWord_52 (by decide) ?_
      exact rf_sub [1, 0] rfl (hrec9 v10 v11 s8 trivial)
    refine rf_iconst C (v := (nI 0)) dX11_isWord_42 rfl ?_
    exact rf_zret C rfl dX11_isWord_43
  refine rf_iconst C (v := (nI 0)) dX11_isWord_20 rfl ?_
  exact rf_zret C rfl dX11_isWord_21

def fX3_firstOf (a1 : Int32) (s0 : PH) : Option (Nat × PH) :=
(ra 6 a1 (fun j => 6 + j) fun (w1 : Nat) =>
(some (w1, s0)))
set_option maxRecDepth 20000 in
set_option maxHeartbeats 2000000 in
theorem mX3_firstOf (l : Launch) (a1 : Int32) (s0 : PH) : Ctw 148 l yX3_firstOf cX3_firstOf 2 (some (.object "LookaheadDepths$WordSet")) (rmOf 0 0) (fun E => [.ref (E.2.1 13), .int a1]) s0 (fX3_firstOf a1 s0) := by
  refine Ctw.of (by decide) rfl (lv := fun E => [(0, .ref (E.2.1 13)), (1, .int a1)]) (fun _ => Nat.le_of_ble_eq_true rfl) (fun _ => rfl) (fun Γ hΓ _ C => ?_)
  subst hΓ
  unfold fX3_firstOf
  refine rf_aload_n C dX3_firstOf_0 rfl 0 rfl ?_
  refine rf_get C (v := .ref ((gE Γ).2.1 15)) cfX3 flX3_26 (by decide) oX3 rfl dX3_firstOf_1 ?_
  refine rf_iload_n C dX3_firstOf_4 rfl 1 rfl ?_
  refine rf_aldW C ar15 dX3_firstOf_5 (fun w1 hw1 => ?_)
  exact rf_wret C (Nat.lt_of_lt_of_le hw1 (by decide)) dX3_firstOf_6

def fX10_has (t : Nat) (a1 : Int32) (a2 : Int32) (s0 : PH) : Option (Int32 × PH) :=
(if a1 < 0 then
(some ((nI 0), s0))
else
(if a2 < 0 then
(some ((nI 0), s0))
else
(if (nI 3) < a2 then
(some ((nI 0), s0))
else
(ra 4 a2 lim fun (v1 : Int32) =>
(if a1 < v1 then
(if a2 = 0 then
(if (s0.2.1 (wId t 0) 2) = (0 : Int64) then
(some ((nI 0), s0))
else
(some ((nI 1), s0)))
else
(if (nI 3) ≤ a2 then
(ra 4 (nI 1) lim fun (v2 : Int32) =>
(jn (fun (v3 : Int32) (s4 : PH) =>
(lt v3 fun (v6 : Int32) =>
(if v6 = 0 then none else
(ra 6 (a1 / v6) (s4.2.1 (wId t 1)) fun (u7 : Int64) =>
(if v6 = 0 then none else
(if ((u7 >>> ((a1 - a1 / v6 * v6).toInt64 &&& 63)) &&& (1 : Int64)) = (0 : Int64) then
(some ((nI 0), s4))
else
(some ((nI 1), s4)))))))) (fun (j5 : Int32 → PH → Option (Int32 × PH)) =>
(if v2 ≤ a1 then
(ra 4 (nI 2) lim fun (v10 : Int32) =>
(if v10 ≤ a1 then
(ra 4 (nI 2) lim fun (v11 : Int32) =>
(j5 v11 s0))
else
(ra 4 (nI 1) lim fun (v12 : Int32) =>
(j5 v12 s0))))
else
(j5 (nI 1) s0)))))
else
(jn (fun (u13 : Int64) (s14 : PH) =>
(if ((u13 >>> (a1.toInt64 &&& 63)) &&& (1 : Int64)) = (0 : Int64) then
(some ((nI 0), s14))
else
(some ((nI 1), s14)))) (fun (j15 : Int64 → PH → Option (Int32 × PH)) =>
(if a2 = (nI 1) then
(j15 (s0.2.1 (wId t 0) 2) s0)
else
(j15 (s0.2.1 (wId t 0) 1) s0))))))
else
(some ((nI 0), s0)))))))
set_option maxRecDepth 20000 in
set_option maxHeartbeats 2000000 in
theorem mX10_has (l : Launch) (t : Nat) (a1 : Int32) (a2 : Int32) (s0 : PH) (ht : t < 36) : Cti 148 l yX10_has cX10_has 4 (some .boolean) (rmOf 0 0) (fun E => [.ref (E.2.1 (wId t 0)), .int a1, .int a2]) s0 (fX10_has t a1 a2 s0) := by
  refine Cti.of (by decide) rfl (lv := fun E => [(0, .ref (E.2.1 (wId t 0))), (1, .int a1), (2, .int a2)]) (fun _ => Nat.le_of_ble_eq_true rfl) (fun _ => rfl) (fun Γ hΓ _ C => ?_)
  subst hΓ
  unfold fX10_has
  refine rf_iload_n C dX10_has_0 rfl 1 rfl ?_
  refine rf_if_lt C 22 dX10_has_1 (by decide) (fun _ => ?_) (fun _ => ?_)
  · refine rf_iconst C (v := (nI 0)) dX10_has_22 rfl ?_
    exact rf_zret C rfl dX10_has_23
  refine rf_iload_n C dX10_has_4 rfl 2 rfl ?_
  refine rf_if_lt C 22 dX10_has_5 (by decide) (fun _ => ?_) (fun _ => ?_)
  · refine rf_iconst C (v := (nI 0)) dX10_has_22 rfl ?_
    exact rf_zret C rfl dX10_has_23
  refine rf_iload_n C dX10_has_8 rfl 2 rfl ?_
  refine rf_iconst C (v := (nI 3)) dX10_has_9 rfl ?_
  refine rf_icmp_gt C 22 dX10_has_10 (by decide) (fun _ => ?_) (fun _ => ?_)
  · refine rf_iconst C (v := (nI 0)) dX10_has_22 rfl ?_
    exact rf_zret C rfl dX10_has_23
  refine rf_iload_n C dX10_has_13 rfl 1 rfl ?_
  refine rf_getsN C dX10_has_14 ?_
  refine rf_iload_n C dX10_has_17 rfl 2 rfl ?_
  refine rf_tald C dX10_has_18 (fun v1 => ?_)
  refine rf_icmp_lt C 24 dX10_has_19 (by decide) (fun _ => ?_) (fun _ => ?_)
  · refine rf_iload_n C dX10_has_24 rfl 2 rfl ?_
    refine rf_if_ne C 43 dX10_has_25 (by decide) (fun _ => ?_) (fun _ => ?_)
    · refine rf_iload_n C dX10_has_43 rfl 2 rfl ?_
      refine rf_iconst C (v := (nI 3)) dX10_has_44 rfl ?_
      refine rf_icmp_ge C 79 dX10_has_45 (by decide) (fun _ => ?_) (fun _ => ?_)
      · refine rf_iload_n C dX10_has_79 rfl 1 rfl ?_
        refine rf_getsN C dX10_has_80 ?_
        refine rf_iconst C (v := (nI 1)) dX10_has_83 rfl ?_
        refine rf_tald C dX10_has_84 (fun v2 => ?_)
        refine rf_jn2 (fun _ _ => True) (fun _ s4 => s4) (fun v3 s4 => [(0, .ref ((gE Γ).2.1 (wId t 0))), (1, .int a1)]) (fun v3 s4 => [.int v3]) 114 (fun v3 s4 _ => ?_) (fun j5 hj5 => ?_)
        · refine rf_istore_n C (fun v6 => [(3, .int v6), (0, .ref ((gE Γ).2.1 (wId t 0))), (1, .int a1)]) dX10_has_114 rfl (by decide) (fun _ => rfl) (fun v6 => ?_)
          refine rf_aload_n C dX10_has_115 rfl 1 rfl ?_
          refine rf_get C (v := .ref ((gE Γ).2.1 (wId t 1))) cfX10 flX10_9 (by decide) (oX10 ht) rfl dX10_has_116 ?_
          refine rf_iload_n C dX10_has_119 rfl 2 rfl ?_
          refine rf_iload_n C dX10_has_120 rfl 0 rfl ?_
          refine rf_div0 (fun hz9 => ?_)
          refine rf_idiv C dX10_has_121 hz9 ?_
          refine rf_lald C (arW1 ht) dX10_has_122 (fun u7 => ?_)
          refine rf_iload_n C dX10_has_123 rfl 2 rfl ?_
          refine rf_iload_n C dX10_has_124 rfl 0 rfl ?_
          refine rf_div0 (fun hz8 => ?_)
          refine rf_irem C dX10_has_125 hz8 ?_
          refine rf_lshr C dX10_has_126 ?_
          refine rf_lconst C (v := (1 : Int64)) dX10_has_127 rfl ?_
          refine rf_land C dX10_has_128 ?_
          refine rf_lconst C (v := (0 : Int64)) dX10_has_129 rfl ?_
          refine rf_lcmp_eq C 138 dX10_has_130 dX10_has_131 (by decide) (fun _ => ?_) (fun _ => ?_)
          · refine rf_iconst C (v := (nI 0)) dX10_has_138 rfl ?_
            exact rf_zret C rfl dX10_has_139
          refine rf_iconst C (v := (nI 1)) dX10_has_134 rfl ?_
          refine rf_goto C 139 dX10_has_135 (by decide) ?_
          exact rf_zret C rfl dX10_has_139
        refine rf_icmp_ge C 92 dX10_has_85 (by decide) (fun _ => ?_) (fun _ => ?_)
        · refine rf_iload_n C dX10_has_92 rfl 1 rfl ?_
          refine rf_getsN C dX10_has_93 ?_
          refine rf_iconst C (v := (nI 2)) dX10_has_96 rfl ?_
          refine rf_tald C dX10_has_97 (fun v10 => ?_)
          refine rf_icmp_ge C 109 dX10_has_98 (by decide) (fun _ => ?_) (fun _ => ?_)
          · refine rf_getsN C dX10_has_109 ?_
            refine rf_iconst C (v := (nI 2)) dX10_has_112 rfl ?_
            refine rf_tald C dX10_has_113 (fun v11 => ?_)
            exact rf_sub [0, 1] rfl (hj5 v11 s0 trivial)
          refine rf_getsN C dX10_has_101 ?_
          refine rf_iconst C (v := (nI 1)) dX10_has_104 rfl ?_
          refine rf_tald C dX10_has_105 (fun v12 => ?_)
          refine rf_goto C 114 dX10_has_106 (by decide) ?_
          exact rf_sub [0, 1] rfl (hj5 v12 s0 trivial)
        refine rf_iconst C (v := (nI 1)) dX10_has_88 rfl ?_
        refine rf_goto C 114 dX10_has_89 (by decide) ?_
        exact rf_sub [0, 1] rfl (hj5 (nI 1) s0 trivial)
      refine rf_iload_n C dX10_has_48 rfl 2 rfl ?_
      refine rf_iconst C (v := (nI 1)) dX10_has_49 rfl ?_
      refine rf_jn2 (fun _ _ => True) (fun _ s14 => s14) (fun u13 s14 => [(1, .int a1)]) (fun u13 s14 => [.long u13]) 64 (fun u13 s14 _ => ?_) (fun j15 hj15 => ?_)
      · refine rf_iload_n C dX10_has_64 rfl 0 rfl ?_
        refine rf_lshr C dX10_has_65 ?_
        refine rf_lconst C (v := (1 : Int64)) dX10_has_66 rfl ?_
        refine rf_land C dX10_has_67 ?_
        refine rf_lconst C (v := (0 : Int64)) dX10_has_68 rfl ?_
        refine rf_lcmp_eq C 77 dX10_has_69 dX10_has_70 (by decide) (fun _ => ?_) (fun _ => ?_)
        · refine rf_iconst C (v := (nI 0)) dX10_has_77 rfl ?_
          exact rf_zret C rfl dX10_has_78
        refine rf_iconst C (v := (nI 1)) dX10_has_73 rfl ?_
        refine rf_goto C 78 dX10_has_74 (by decide) ?_
        exact rf_zret C rfl dX10_has_78
      refine rf_icmp_ne C 60 dX10_has_50 (by decide) (fun _ => ?_) (fun _ => ?_)
      · refine rf_aload_n C dX10_has_60 rfl 0 rfl ?_
        refine rf_get C (v := .long (s0.2.1 (wId t 0) 1)) cfX10 flX10_15 (by decide) (oX10 ht) rfl dX10_has_61 ?_
        exact rf_sub [1] rfl (hj15 (s0.2.1 (wId t 0) 1) s0 trivial)
      refine rf_aload_n C dX10_has_53 rfl 0 rfl ?_
      refine rf_get C (v := .long (s0.2.1 (wId t 0) 2)) cfX10 flX10_19 (by decide) (oX10 ht) rfl dX10_has_54 ?_
      refine rf_goto C 64 dX10_has_57 (by decide) ?_
      exact rf_sub [1] rfl (hj15 (s0.2.1 (wId t 0) 2) s0 trivial)
    refine rf_aload_n C dX10_has_28 rfl 0 rfl ?_
    refine rf_get C (v := .long (s0.2.1 (wId t 0) 2)) cfX10 flX10_19 (by decide) (oX10 ht) rfl dX10_has_29 ?_
    refine rf_lconst C (v := (0 : Int64)) dX10_has_32 rfl ?_
    refine rf_lcmp_eq C 41 dX10_has_33 dX10_has_34 (by decide) (fun _ => ?_) (fun _ => ?_)
    · refine rf_iconst C (v := (nI 0)) dX10_has_41 rfl ?_
      exact rf_zret C rfl dX10_has_42
    refine rf_iconst C (v := (nI 1)) dX10_has_37 rfl ?_
    refine rf_goto C 42 dX10_has_38 (by decide) ?_
    exact rf_zret C rfl dX10_has_42
  refine rf_iconst C (v := (nI 0)) dX10_has_22 rfl ?_
  exact rf_zret C rfl dX10_has_23

def fX11_first (n : Nat) (a1 : Int32) (a2 : Int32) (a3 : Int32) (s0 : PH) : Option (Int32 × PH) :=
(bd (fX11_isDefined a1 s0) fun (r2 : Int32) (s1 : PH) =>
(if r2 = 0 then
(some ((-1 : Int32), s1))
else
(bd (fX11_isWord n a3 a2 s1) fun (r4 : Int32) (s3 : PH) =>
(if r4 = 0 then
(some ((-1 : Int32), s3))
else
(bd (fX3_firstOf a1 s3) fun (w6 : Nat) (s5 : PH) =>
(bd (fX10_has w6 a3 a2 s5) fun (r8 : Int32) (s7 : PH) =>
(if r8 = 0 then
(some ((nI 0), s7))
else
(some ((nI 1), s7)))))))))
set_option maxRecDepth 20000 in
set_option maxHeartbeats 2000000 in
theorem mX11_first (l : Launch) (n : Nat) (a1 : Int32) (a2 : Int32) (a3 : Int32) (s0 : PH) : Cti 148 l yX11_first cX11_first 4 (some .int) (rmOf 2 43) (fun E => [.ref (E.2.1 0), .int a1, .int a2, .int a3]) s0 (fX11_first n a1 a2 a3 s0) := by
  refine Cti.of (by decide) rfl (lv := fun E => [(0, .ref (E.2.1 0)), (1, .int a1), (2, .int a2), (3, .int a3)]) (fun _ => Nat.le_of_ble_eq_true rfl) (fun _ => rfl) (fun Γ hΓ _ C => ?_)
  subst hΓ
  unfold fX11_first
  refine rf_aload_n C dX11_first_0 rfl 0 rfl ?_
  refine rf_iload_n C dX11_first_1 rfl 1 rfl ?_
  refine rf_callVi C (rmc := rmOf 1 21) [.int a1] (by decide) (mX11_isDefined (gL Γ) a1 s0) mfX11_isDefined mvX11_isDefined mlX11_152 rfl oX11 rfl rfl rfl (Nat.le_of_ble_eq_true rfl) ⟨Nat.le_of_ble_eq_true rfl, Nat.le_of_ble_eq_true rfl⟩ dX11_first_2 (fun r2 s1 => ?_)
  refine rf_if_eq C 16 dX11_first_5 (by decide) (fun _ => ?_) (fun _ => ?_)
  · refine rf_iconst C (v := (-1 : Int32)) dX11_first_16 rfl ?_
    exact rf_iret C dX11_first_17
  refine rf_iload_n C dX11_first_8 rfl 3 rfl ?_
  refine rf_iload_n C dX11_first_9 rfl 2 rfl ?_
  refine rf_callSi C (rmc := rmOf 1 20) [.int a3, .int a2] (by decide) (mX11_isWord (gL Γ) n a3 a2 s1) mfX11_isWord msX11_isWord mlX11_155 rfl rfl rfl (Nat.le_of_ble_eq_true rfl) ⟨Nat.le_of_ble_eq_true rfl, Nat.le_of_ble_eq_true rfl⟩ dX11_first_10 (fun r4 s3 => ?_)
  refine rf_if_ne C 18 dX11_first_13 (by decide) (fun _ => ?_) (fun _ => ?_)
  · refine rf_aload_n C dX11_first_18 rfl 0 rfl ?_
    refine rf_get C (v := .ref ((gE Γ).2.1 13)) cfX11 flX11_40 (by decide) oX11 rfl dX11_first_19 ?_
    refine rf_iload_n C dX11_first_22 rfl 1 rfl ?_
    refine rf_callVw C (rmc := rmOf 0 0) [.int a1] (by decide) (mX3_firstOf (gL Γ) a1 s3) mfX3_firstOf mvX3_firstOf mlX11_159 rfl oX3 rfl rfl rfl (Nat.le_of_ble_eq_true rfl) ⟨Nat.le_of_ble_eq_true rfl, Nat.le_of_ble_eq_true rfl⟩ dX11_first_23 (fun w6 s5 hw6 => ?_)
    refine rf_iload_n C dX11_first_26 rfl 3 rfl ?_
    refine rf_iload_n C dX11_first_27 rfl 2 rfl ?_
    refine rf_callVi C (rmc := rmOf 0 0) [.int a3, .int a2] (by decide) (mX10_has (gL Γ) w6 a3 a2 s5 hw6) mfX10_has mvX10_has mlX11_163 rfl (oX10 hw6) rfl rfl rfl (Nat.le_of_ble_eq_true rfl) ⟨Nat.le_of_ble_eq_true rfl, Nat.le_of_ble_eq_true rfl⟩ dX11_first_28 (fun r8 s7 => ?_)
    refine rf_if_eq C 38 dX11_first_31 (by decide) (fun _ => ?_) (fun _ => ?_)
    · refine rf_iconst C (v := (nI 0)) dX11_first_38 rfl ?_
      exact rf_iret C dX11_first_39
    refine rf_iconst C (v := (nI 1)) dX11_first_34 rfl ?_
    refine rf_goto C 39 dX11_first_35 (by decide) ?_
    exact rf_iret C dX11_first_39
  refine rf_iconst C (v := (-1 : Int32)) dX11_first_16 rfl ?_
  exact rf_iret C dX11_first_17

def fX3_followOf (a1 : Int32) (s0 : PH) : Option (Nat × PH) :=
(ra 6 a1 (fun j => 12 + j) fun (w1 : Nat) =>
(some (w1, s0)))
set_option maxRecDepth 20000 in
set_option maxHeartbeats 2000000 in
theorem mX3_followOf (l : Launch) (a1 : Int32) (s0 : PH) : Ctw 148 l yX3_followOf cX3_followOf 2 (some (.object "LookaheadDepths$WordSet")) (rmOf 0 0) (fun E => [.ref (E.2.1 13), .int a1]) s0 (fX3_followOf a1 s0) := by
  refine Ctw.of (by decide) rfl (lv := fun E => [(0, .ref (E.2.1 13)), (1, .int a1)]) (fun _ => Nat.le_of_ble_eq_true rfl) (fun _ => rfl) (fun Γ hΓ _ C => ?_)
  subst hΓ
  unfold fX3_followOf
  refine rf_aload_n C dX3_followOf_0 rfl 0 rfl ?_
  refine rf_get C (v := .ref ((gE Γ).2.1 16)) cfX3 flX3_29 (by decide) oX3 rfl dX3_followOf_1 ?_
  refine rf_iload_n C dX3_followOf_4 rfl 1 rfl ?_
  refine rf_aldW C ar16 dX3_followOf_5 (fun w1 hw1 => ?_)
  exact rf_wret C (Nat.lt_of_lt_of_le hw1 (by decide)) dX3_followOf_6

def fX11_follow (n : Nat) (a1 : Int32) (a2 : Int32) (a3 : Int32) (s0 : PH) : Option (Int32 × PH) :=
(bd (fX11_isDefined a1 s0) fun (r2 : Int32) (s1 : PH) =>
(if r2 = 0 then
(some ((-1 : Int32), s1))
else
(bd (fX11_isWord n a3 a2 s1) fun (r4 : Int32) (s3 : PH) =>
(if r4 = 0 then
(some ((-1 : Int32), s3))
else
(bd (fX3_followOf a1 s3) fun (w6 : Nat) (s5 : PH) =>
(bd (fX10_has w6 a3 a2 s5) fun (r8 : Int32) (s7 : PH) =>
(if r8 = 0 then
(some ((nI 0), s7))
else
(some ((nI 1), s7)))))))))
set_option maxRecDepth 20000 in
set_option maxHeartbeats 2000000 in
theorem mX11_follow (l : Launch) (n : Nat) (a1 : Int32) (a2 : Int32) (a3 : Int32) (s0 : PH) : Cti 148 l yX11_follow cX11_follow 4 (some .int) (rmOf 2 43) (fun E => [.ref (E.2.1 0), .int a1, .int a2, .int a3]) s0 (fX11_follow n a1 a2 a3 s0) := by
  refine Cti.of (by decide) rfl (lv := fun E => [(0, .ref (E.2.1 0)), (1, .int a1), (2, .int a2), (3, .int a3)]) (fun _ => Nat.le_of_ble_eq_true rfl) (fun _ => rfl) (fun Γ hΓ _ C => ?_)
  subst hΓ
  unfold fX11_follow
  refine rf_aload_n C dX11_follow_0 rfl 0 rfl ?_
  refine rf_iload_n C dX11_follow_1 rfl 1 rfl ?_
  refine rf_callVi C (rmc := rmOf 1 21) [.int a1] (by decide) (mX11_isDefined (gL Γ) a1 s0) mfX11_isDefined mvX11_isDefined mlX11_152 rfl oX11 rfl rfl rfl (Nat.le_of_ble_eq_true rfl) ⟨Nat.le_of_ble_eq_true rfl, Nat.le_of_ble_eq_true rfl⟩ dX11_follow_2 (fun r2 s1 => ?_)
  refine rf_if_eq C 16 dX11_follow_5 (by decide) (fun _ => ?_) (fun _ => ?_)
  · refine rf_iconst C (v := (-1 : Int32)) dX11_follow_16 rfl ?_
    exact rf_iret C dX11_follow_17
  refine rf_iload_n C dX11_follow_8 rfl 3 rfl ?_
  refine rf_iload_n C dX11_follow_9 rfl 2 rfl ?_
  refine rf_callSi C (rmc := rmOf 1 20) [.int a3, .int a2] (by decide) (mX11_isWord (gL Γ) n a3 a2 s1) mfX11_isWord msX11_isWord mlX11_155 rfl rfl rfl (Nat.le_of_ble_eq_true rfl) ⟨Nat.le_of_ble_eq_true rfl, Nat.le_of_ble_eq_true rfl⟩ dX11_follow_10 (fun r4 s3 => ?_)
  refine rf_if_ne C 18 dX11_follow_13 (by decide) (fun _ => ?_) (fun _ => ?_)
  · refine rf_aload_n C dX11_follow_18 rfl 0 rfl ?_
    refine rf_get C (v := .ref ((gE Γ).2.1 13)) cfX11 flX11_40 (by decide) oX11 rfl dX11_follow_19 ?_
    refine rf_iload_n C dX11_follow_22 rfl 1 rfl ?_
    refine rf_callVw C (rmc := rmOf 0 0) [.int a1] (by decide) (mX3_followOf (gL Γ) a1 s3) mfX3_followOf mvX3_followOf mlX11_167 rfl oX3 rfl rfl rfl (Nat.le_of_ble_eq_true rfl) ⟨Nat.le_of_ble_eq_true rfl, Nat.le_of_ble_eq_true rfl⟩ dX11_follow_23 (fun w6 s5 hw6 => ?_)
    refine rf_iload_n C dX11_follow_26 rfl 3 rfl ?_
    refine rf_iload_n C dX11_follow_27 rfl 2 rfl ?_
    refine rf_callVi C (rmc := rmOf 0 0) [.int a3, .int a2] (by decide) (mX10_has (gL Γ) w6 a3 a2 s5 hw6) mfX10_has mvX10_has mlX11_163 rfl (oX10 hw6) rfl rfl rfl (Nat.le_of_ble_eq_true rfl) ⟨Nat.le_of_ble_eq_true rfl, Nat.le_of_ble_eq_true rfl⟩ dX11_follow_28 (fun r8 s7 => ?_)
    refine rf_if_eq C 38 dX11_follow_31 (by decide) (fun _ => ?_) (fun _ => ?_)
    · refine rf_iconst C (v := (nI 0)) dX11_follow_38 rfl ?_
      exact rf_iret C dX11_follow_39
    refine rf_iconst C (v := (nI 1)) dX11_follow_34 rfl ?_
    refine rf_goto C 39 dX11_follow_35 (by decide) ?_
    exact rf_iret C dX11_follow_39
  refine rf_iconst C (v := (-1 : Int32)) dX11_follow_16 rfl ?_
  exact rf_iret C dX11_follow_17

def fX3_aheadOf (a1 : Int32) (s0 : PH) : Option (Nat × PH) :=
(ra 16 a1 (fun j => 18 + j) fun (w1 : Nat) =>
(some (w1, s0)))
set_option maxRecDepth 20000 in
set_option maxHeartbeats 2000000 in
theorem mX3_aheadOf (l : Launch) (a1 : Int32) (s0 : PH) : Ctw 148 l yX3_aheadOf cX3_aheadOf 2 (some (.object "LookaheadDepths$WordSet")) (rmOf 0 0) (fun E => [.ref (E.2.1 13), .int a1]) s0 (fX3_aheadOf a1 s0) := by
  refine Ctw.of (by decide) rfl (lv := fun E => [(0, .ref (E.2.1 13)), (1, .int a1)]) (fun _ => Nat.le_of_ble_eq_true rfl) (fun _ => rfl) (fun Γ hΓ _ C => ?_)
  subst hΓ
  unfold fX3_aheadOf
  refine rf_aload_n C dX3_aheadOf_0 rfl 0 rfl ?_
  refine rf_get C (v := .ref ((gE Γ).2.1 17)) cfX3 flX3_32 (by decide) oX3 rfl dX3_aheadOf_1 ?_
  refine rf_iload_n C dX3_aheadOf_4 rfl 1 rfl ?_
  refine rf_aldW C ar17 dX3_aheadOf_5 (fun w1 hw1 => ?_)
  exact rf_wret C (Nat.lt_of_lt_of_le hw1 (by decide)) dX3_aheadOf_6

def fX11_ahead (n : Nat) (a1 : Int32) (a2 : Int32) (a3 : Int32) (s0 : PH) : Option (Int32 × PH) :=
(lt (s0.2.2 0 8) fun (g1 : Nat) =>
(bd (fX4_has g1 a1 s0) fun (r3 : Int32) (s2 : PH) =>
(if r3 = 0 then
(some ((-1 : Int32), s2))
else
(bd (fX11_isWord n a3 a2 s2) fun (r5 : Int32) (s4 : PH) =>
(if r5 = 0 then
(some ((-1 : Int32), s4))
else
(bd (fX3_aheadOf a1 s4) fun (w7 : Nat) (s6 : PH) =>
(bd (fX10_has w7 a3 a2 s6) fun (r9 : Int32) (s8 : PH) =>
(if r9 = 0 then
(some ((nI 0), s8))
else
(some ((nI 1), s8))))))))))
set_option maxRecDepth 20000 in
set_option maxHeartbeats 2000000 in
theorem mX11_ahead (l : Launch) (n : Nat) (a1 : Int32) (a2 : Int32) (a3 : Int32) (s0 : PH) : Cti 148 l yX11_ahead cX11_ahead 4 (some .int) (rmOf 2 43) (fun E => [.ref (E.2.1 0), .int a1, .int a2, .int a3]) s0 (fX11_ahead n a1 a2 a3 s0) := by
  refine Cti.of (by decide) rfl (lv := fun E => [(0, .ref (E.2.1 0)), (1, .int a1), (2, .int a2), (3, .int a3)]) (fun _ => Nat.le_of_ble_eq_true rfl) (fun _ => rfl) (fun Γ hΓ _ C => ?_)
  subst hΓ
  unfold fX11_ahead
  refine rf_aload_n C dX11_ahead_0 rfl 0 rfl ?_
  refine rf_getG C cfX11 flX11_68 (by decide) oX11 (fun _ _ _ _ => rfl) dX11_ahead_1 (fun g1 hg1 => ?_)
  refine rf_iload_n C dX11_ahead_4 rfl 1 rfl ?_
  refine rf_callVi C (rmc := rmOf 0 0) [.int a1] (by decide) (mX4_has (gL Γ) g1 a1 s0 hg1) mfX4_has mvX4_has mlX11_113 rfl (oX4 hg1) rfl rfl rfl (Nat.le_of_ble_eq_true rfl) ⟨Nat.le_of_ble_eq_true rfl, Nat.le_of_ble_eq_true rfl⟩ dX11_ahead_5 (fun r3 s2 => ?_)
  refine rf_if_eq C 19 dX11_ahead_8 (by decide) (fun _ => ?_) (fun _ => ?_)
  · refine rf_iconst C (v := (-1 : Int32)) dX11_ahead_19 rfl ?_
    exact rf_iret C dX11_ahead_20
  refine rf_iload_n C dX11_ahead_11 rfl 3 rfl ?_
  refine rf_iload_n C dX11_ahead_12 rfl 2 rfl ?_
  refine rf_callSi C (rmc := rmOf 1 20) [.int a3, .int a2] (by decide) (mX11_isWord (gL Γ) n a3 a2 s2) mfX11_isWord msX11_isWord mlX11_155 rfl rfl rfl (Nat.le_of_ble_eq_true rfl) ⟨Nat.le_of_ble_eq_true rfl, Nat.le_of_ble_eq_true rfl⟩ dX11_ahead_13 (fun r5 s4 => ?_)
  refine rf_if_ne C 21 dX11_ahead_16 (by decide) (fun _ => ?_) (fun _ => ?_)
  · refine rf_aload_n C dX11_ahead_21 rfl 0 rfl ?_
    refine rf_get C (v := .ref ((gE Γ).2.1 13)) cfX11 flX11_40 (by decide) oX11 rfl dX11_ahead_22 ?_
    refine rf_iload_n C dX11_ahead_25 rfl 1 rfl ?_
    refine rf_callVw C (rmc := rmOf 0 0) [.int a1] (by decide) (mX3_aheadOf (gL Γ) a1 s4) mfX3_aheadOf mvX3_aheadOf mlX11_170 rfl oX3 rfl rfl rfl (Nat.le_of_ble_eq_true rfl) ⟨Nat.le_of_ble_eq_true rfl, Nat.le_of_ble_eq_true rfl⟩ dX11_ahead_26 (fun w7 s6 hw7 => ?_)
    refine rf_iload_n C dX11_ahead_29 rfl 3 rfl ?_
    refine rf_iload_n C dX11_ahead_30 rfl 2 rfl ?_
    refine rf_callVi C (rmc := rmOf 0 0) [.int a3, .int a2] (by decide) (mX10_has (gL Γ) w7 a3 a2 s6 hw7) mfX10_has mvX10_has mlX11_163 rfl (oX10 hw7) rfl rfl rfl (Nat.le_of_ble_eq_true rfl) ⟨Nat.le_of_ble_eq_true rfl, Nat.le_of_ble_eq_true rfl⟩ dX11_ahead_31 (fun r9 s8 => ?_)
    refine rf_if_eq C 41 dX11_ahead_34 (by decide) (fun _ => ?_) (fun _ => ?_)
    · refine rf_iconst C (v := (nI 0)) dX11_ahead_41 rfl ?_
      exact rf_iret C dX11_ahead_42
    refine rf_iconst C (v := (nI 1)) dX11_ahead_37 rfl ?_
    refine rf_goto C 42 dX11_ahead_38 (by decide) ?_
    exact rf_iret C dX11_ahead_42
  refine rf_iconst C (v := (-1 : Int32)) dX11_ahead_19 rfl ?_
  exact rf_iret C dX11_ahead_20

def fJ13_bitCount_95d88 (a1 : Int64) (s0 : PH) : Option (Int32 × PH) :=
(lt (a1 - ((a1.toUInt64 >>> ((nI 1).toInt64.toUInt64 &&& Int64.toUInt64 63)).toInt64 &&& (6148914691236517205 : Int64))) fun (u1 : Int64) =>
(lt ((u1 &&& (3689348814741910323 : Int64)) + ((u1.toUInt64 >>> ((nI 2).toInt64.toUInt64 &&& Int64.toUInt64 63)).toInt64 &&& (3689348814741910323 : Int64))) fun (u2 : Int64) =>
(lt ((u2 + (u2.toUInt64 >>> ((nI 4).toInt64.toUInt64 &&& Int64.toUInt64 63)).toInt64) &&& (1085102592571150095 : Int64)) fun (u3 : Int64) =>
(lt (u3 + (u3.toUInt64 >>> ((nI 8).toInt64.toUInt64 &&& Int64.toUInt64 63)).toInt64) fun (u4 : Int64) =>
(lt (u4 + (u4.toUInt64 >>> ((nI 16).toInt64.toUInt64 &&& Int64.toUInt64 63)).toInt64) fun (u5 : Int64) =>
(lt (u5 + (u5.toUInt64 >>> ((nI 32).toInt64.toUInt64 &&& Int64.toUInt64 63)).toInt64) fun (u6 : Int64) =>
(some ((u6.toInt32 &&& (nI 127)), s0))))))))
set_option maxRecDepth 20000 in
set_option maxHeartbeats 2000000 in
theorem mJ13_bitCount_95d88 (l : Launch) (a1 : Int64) (s0 : PH) : Cti 148 l yJ13_bitCount_95d88 cJ13_bitCount_95d88 2 (some .int) (rmOf 0 0) (fun E => [.long a1]) s0 (fJ13_bitCount_95d88 a1 s0) := by
  refine Cti.of (by decide) rfl (lv := fun E => [(0, .long a1)]) (fun _ => Nat.le_of_ble_eq_true rfl) (fun _ => rfl) (fun Γ hΓ _ C => ?_)
  subst hΓ
  unfold fJ13_bitCount_95d88
  refine rf_lload_n C dJ13_bitCount_95d88_0 rfl 0 rfl ?_
  refine rf_lload_n C dJ13_bitCount_95d88_1 rfl 0 rfl ?_
  refine rf_iconst C (v := (nI 1)) dJ13_bitCount_95d88_2 rfl ?_
  refine rf_lushr C dJ13_bitCount_95d88_3 ?_
  refine rf_ldc2 C dJ13_bitCount_95d88_4 klJ13_314 ?_
  refine rf_land C dJ13_bitCount_95d88_7 ?_
  refine rf_lsub C dJ13_bitCount_95d88_8 ?_
  refine rf_lstore_n C (fun u1 => [(0, .long u1)]) dJ13_bitCount_95d88_9 rfl (by decide) (fun _ => rfl) (fun u1 => ?_)
  refine rf_lload_n C dJ13_bitCount_95d88_10 rfl 0 rfl ?_
  refine rf_ldc2 C dJ13_bitCount_95d88_11 klJ13_316 ?_
  refine rf_land C dJ13_bitCount_95d88_14 ?_
  refine rf_lload_n C dJ13_bitCount_95d88_15 rfl 0 rfl ?_
  refine rf_iconst C (v := (nI 2)) dJ13_bitCount_95d88_16 rfl ?_
  refine rf_lushr C dJ13_bitCount_95d88_17 ?_
  refine rf_ldc2 C dJ13_bitCount_95d88_18 klJ13_316 ?_
  refine rf_land C dJ13_bitCount_95d88_21 ?_
  refine rf_ladd C dJ13_bitCount_95d88_22 ?_
  refine rf_lstore_n C (fun u2 => [(0, .long u2)]) dJ13_bitCount_95d88_23 rfl (by decide) (fun _ => rfl) (fun u2 => ?_)
  refine rf_lload_n C dJ13_bitCount_95d88_24 rfl 0 rfl ?_
  refine rf_lload_n C dJ13_bitCount_95d88_25 rfl 0 rfl ?_
  refine rf_iconst C (v := (nI 4)) dJ13_bitCount_95d88_26 rfl ?_
  refine rf_lushr C dJ13_bitCount_95d88_27 ?_
  refine rf_ladd C dJ13_bitCount_95d88_28 ?_
  refine rf_ldc2 C dJ13_bitCount_95d88_29 klJ13_318 ?_
  refine rf_land C dJ13_bitCount_95d88_32 ?_
  refine rf_lstore_n C (fun u3 => [(0, .long u3)]) dJ13_bitCount_95d88_33 rfl (by decide) (fun _ => rfl) (fun u3 => ?_)
  refine rf_lload_n C dJ13_bitCount_95d88_34 rfl 0 rfl ?_
  refine rf_lload_n C dJ13_bitCount_95d88_35 rfl 0 rfl ?_
  refine rf_bipush C (v := (nI 8)) dJ13_bitCount_95d88_36 rfl ?_
  refine rf_lushr C dJ13_bitCount_95d88_38 ?_
  refine rf_ladd C dJ13_bitCount_95d88_39 ?_
  refine rf_lstore_n C (fun u4 => [(0, .long u4)]) dJ13_bitCount_95d88_40 rfl (by decide) (fun _ => rfl) (fun u4 => ?_)
  refine rf_lload_n C dJ13_bitCount_95d88_41 rfl 0 rfl ?_
  refine rf_lload_n C dJ13_bitCount_95d88_42 rfl 0 rfl ?_
  refine rf_bipush C (v := (nI 16)) dJ13_bitCount_95d88_43 rfl ?_
  refine rf_lushr C dJ13_bitCount_95d88_45 ?_
  refine rf_ladd C dJ13_bitCount_95d88_46 ?_
  refine rf_lstore_n C (fun u5 => [(0, .long u5)]) dJ13_bitCount_95d88_47 rfl (by decide) (fun _ => rfl) (fun u5 => ?_)
  refine rf_lload_n C dJ13_bitCount_95d88_48 rfl 0 rfl ?_
  refine rf_lload_n C dJ13_bitCount_95d88_49 rfl 0 rfl ?_
  refine rf_bipush C (v := (nI 32)) dJ13_bitCount_95d88_50 rfl ?_
  refine rf_lushr C dJ13_bitCount_95d88_52 ?_
  refine rf_ladd C dJ13_bitCount_95d88_53 ?_
  refine rf_lstore_n C (fun u6 => [(0, .long u6)]) dJ13_bitCount_95d88_54 rfl (by decide) (fun _ => rfl) (fun u6 => ?_)
  refine rf_lload_n C dJ13_bitCount_95d88_55 rfl 0 rfl ?_
  refine rf_l2i C dJ13_bitCount_95d88_56 ?_
  refine rf_bipush C (v := (nI 127)) dJ13_bitCount_95d88_57 rfl ?_
  refine rf_iand C dJ13_bitCount_95d88_59 ?_
  exact rf_iret C dJ13_bitCount_95d88_60

def fX10_size (n : Nat) (t : Nat) (a1 : Int32) (s0 : PH) : Option (Int32 × PH) :=
(if a1 = 0 then
(if (s0.2.1 (wId t 0) 2) = (0 : Int64) then
(some ((nI 0), s0))
else
(some ((nI 1), s0)))
else
(if (nI 3) ≤ a1 then
(lt (nI 0) fun (v1 : Int32) =>
(lt (nI 0) fun (v2 : Int32) =>
(loo3 (fun (recrec6 : Int32 → Int32 → PH → Option (Int32 × PH)) (v3 : Int32) (v4 : Int32) (s5 : PH) =>
(if (nI 6) ≤ v4 then
(some (v3, s5))
else
(ra 6 v4 (s5.2.1 (wId t 1)) fun (u7 : Int64) =>
(bd (fJ13_bitCount_95d88 u7 s5) fun (r9 : Int32) (s8 : PH) =>
(lt (v3 + r9) fun (v10 : Int32) =>
(lt (v4 + (nI 1)) fun (v11 : Int32) =>
(recrec6 v10 v11 s8))))))) n v1 v2 s0)))
else
(jn (fun (u12 : Int64) (s13 : PH) =>
(bd (fJ13_bitCount_95d88 u12 s13) fun (r16 : Int32) (s15 : PH) =>
(some (r16, s15)))) (fun (j14 : Int64 → PH → Option (Int32 × PH)) =>
(if a1 = (nI 1) then
(j14 (s0.2.1 (wId t 0) 2) s0)
else
(j14 (s0.2.1 (wId t 0) 1) s0))))))
set_option maxRecDepth 20000 in
set_option maxHeartbeats 2000000 in
theorem mX10_size (l : Launch) (n : Nat) (t : Nat) (a1 : Int32) (s0 : PH) (ht : t < 36) : Cti 148 l yX10_size cX10_size 4 (some .int) (rmOf 1 21) (fun E => [.ref (E.2.1 (wId t 0)), .int a1]) s0 (fX10_size n t a1 s0) := by
  refine Cti.of (by decide) rfl (lv := fun E => [(0, .ref (E.2.1 (wId t 0))), (1, .int a1)]) (fun _ => Nat.le_of_ble_eq_true rfl) (fun _ => rfl) (fun Γ hΓ _ C => ?_)
  subst hΓ
  unfold fX10_size
  refine rf_iload_n C dX10_size_0 rfl 1 rfl ?_
  refine rf_if_ne C 19 dX10_size_1 (by decide) (fun _ => ?_) (fun _ => ?_)
  · refine rf_iload_n C dX10_size_19 rfl 1 rfl ?_
    refine rf_iconst C (v := (nI 3)) dX10_size_20 rfl ?_
    refine rf_icmp_ge C 44 dX10_size_21 (by decide) (fun _ => ?_) (fun _ => ?_)
    · refine rf_iconst C (v := (nI 0)) dX10_size_44 rfl ?_
      refine rf_istore_n C (fun v1 => [(2, .int v1), (0, .ref ((gE Γ).2.1 (wId t 0))), (1, .int a1)]) dX10_size_45 rfl (by decide) (fun _ => rfl) (fun v1 => ?_)
      refine rf_iconst C (v := (nI 0)) dX10_size_46 rfl ?_
      refine rf_istore_n C (fun v2 => [(3, .int v2), (2, .int v1), (0, .ref ((gE Γ).2.1 (wId t 0))), (1, .int a1)]) dX10_size_47 rfl (by decide) (fun _ => rfl) (fun v2 => ?_)
      refine rf_sub [2, 1, 0] rfl ?_
      refine rf_loo3 (fun _ _ _ => True) (fun _ _ s5 => s5) (fun v3 v4 s5 => [(0, .ref ((gE Γ).2.1 (wId t 0))), (2, .int v3), (3, .int v4)]) (fun recrec6 hrec6 v3 v4 s5 _ => ?_) n v1 v2 s0 trivial
      refine rf_iload_n C dX10_size_48 rfl 2 rfl ?_
      refine rf_bipush C (v := (nI 6)) dX10_size_49 rfl ?_
      refine rf_icmp_ge C 72 dX10_size_51 (by decide) (fun _ => ?_) (fun _ => ?_)
      · refine rf_iload_n C dX10_size_72 rfl 1 rfl ?_
        exact rf_iret C dX10_size_73
      refine rf_iload_n C dX10_size_54 rfl 1 rfl ?_
      refine rf_aload_n C dX10_size_55 rfl 0 rfl ?_
      refine rf_get C (v := .ref ((gE Γ).2.1 (wId t 1))) cfX10 flX10_9 (by decide) (oX10 ht) rfl dX10_size_56 ?_
      refine rf_iload_n C dX10_size_59 rfl 2 rfl ?_
      refine rf_lald C (arW1 ht) dX10_size_60 (fun u7 => ?_)
      refine rf_callSi C (rmc := rmOf 0 0) [.long u7] (by decide) (mJ13_bitCount_95d88 (gL Γ) u7 s5) mfJ13_bitCount_95d88 msJ13_bitCount_95d88 mlX10_47 rfl rfl rfl (Nat.le_of_ble_eq_true rfl) ⟨Nat.le_of_ble_eq_true rfl, Nat.le_of_ble_eq_true rfl⟩ dX10_size_61 (fun r9 s8 => ?_)
      refine rf_iadd C dX10_size_64 ?_
      refine rf_istore_n C (fun v10 => [(2, .int v10), (0, .ref ((gE Γ).2.1 (wId t 0))), (3, .int v4)]) dX10_size_65 rfl (by decide) (fun _ => rfl) (fun v10 => ?_)
      refine rf_iinc C (fun v11 => [(3, .int v11), (2, .int v10), (0, .ref ((gE Γ).2.1 (wId t 0)))]) dX10_size_66 2 rfl rfl (by decide) (fun _ => rfl) (fun v11 => ?_)
      refine rf_goto C 48 dX10_size_69 (by decide) ?_
      exact rf_sub [2, 1, 0] rfl (hrec6 v10 v11 s8 trivial)
    refine rf_iload_n C dX10_size_24 rfl 1 rfl ?_
    refine rf_iconst C (v := (nI 1)) dX10_size_25 rfl ?_
    refine rf_jn2 (fun _ _ => True) (fun _ s13 => s13) (fun u12 s13 => []) (fun u12 s13 => [.long u12]) 40 (fun u12 s13 _ => ?_) (fun j14 hj14 => ?_)
    · refine rf_callSi C (rmc := rmOf 0 0) [.long u12] (by decide) (mJ13_bitCount_95d88 (gL Γ) u12 s13) mfJ13_bitCount_95d88 msJ13_bitCount_95d88 mlX10_47 rfl rfl rfl (Nat.le_of_ble_eq_true rfl) ⟨Nat.le_of_ble_eq_true rfl, Nat.le_of_ble_eq_true rfl⟩ dX10_size_40 (fun r16 s15 => ?_)
      exact rf_iret C dX10_size_43
    refine rf_icmp_ne C 36 dX10_size_26 (by decide) (fun _ => ?_) (fun _ => ?_)
    · refine rf_aload_n C dX10_size_36 rfl 0 rfl ?_
      refine rf_get C (v := .long (s0.2.1 (wId t 0) 1)) cfX10 flX10_15 (by decide) (oX10 ht) rfl dX10_size_37 ?_
      exact rf_sub [] rfl (hj14 (s0.2.1 (wId t 0) 1) s0 trivial)
    refine rf_aload_n C dX10_size_29 rfl 0 rfl ?_
    refine rf_get C (v := .long (s0.2.1 (wId t 0) 2)) cfX10 flX10_19 (by decide) (oX10 ht) rfl dX10_size_30 ?_
    refine rf_goto C 40 dX10_size_33 (by decide) ?_
    exact rf_sub [] rfl (hj14 (s0.2.1 (wId t 0) 2) s0 trivial)
  refine rf_aload_n C dX10_size_4 rfl 0 rfl ?_
  refine rf_get C (v := .long (s0.2.1 (wId t 0) 2)) cfX10 flX10_19 (by decide) (oX10 ht) rfl dX10_size_5 ?_
  refine rf_lconst C (v := (0 : Int64)) dX10_size_8 rfl ?_
  refine rf_lcmp_eq C 17 dX10_size_9 dX10_size_10 (by decide) (fun _ => ?_) (fun _ => ?_)
  · refine rf_iconst C (v := (nI 0)) dX10_size_17 rfl ?_
    exact rf_iret C dX10_size_18
  refine rf_iconst C (v := (nI 1)) dX10_size_13 rfl ?_
  refine rf_goto C 18 dX10_size_14 (by decide) ?_
  exact rf_iret C dX10_size_18

def fX11_words (n : Nat) (a1 : Int32) (a2 : Int32) (a3 : Int32) (s0 : PH) : Option (Int32 × PH) :=
(if a1 < 0 then
(some ((-1 : Int32), s0))
else
(if (nI 2) < a1 then
(some ((-1 : Int32), s0))
else
(bd (fX11_isLookahead a3 s0) fun (r2 : Int32) (s1 : PH) =>
(if r2 = 0 then
(some ((-1 : Int32), s1))
else
(jn (fun (s3 : PH) =>
(if a1 = 0 then
(bd (fX3_firstOf a2 s3) fun (w14 : Nat) (s13 : PH) =>
(bd (fX10_size n w14 a3 s13) fun (r16 : Int32) (s15 : PH) =>
(some (r16, s15))))
else
(if a1 = (nI 1) then
(bd (fX3_followOf a2 s3) fun (w10 : Nat) (s9 : PH) =>
(bd (fX10_size n w10 a3 s9) fun (r12 : Int32) (s11 : PH) =>
(some (r12, s11))))
else
(bd (fX3_aheadOf a2 s3) fun (w6 : Nat) (s5 : PH) =>
(bd (fX10_size n w6 a3 s5) fun (r8 : Int32) (s7 : PH) =>
(some (r8, s7))))))) (fun (j4 : PH → Option (Int32 × PH)) =>
(if a1 = (nI 2) then
(lt (s1.2.2 0 8) fun (g19 : Nat) =>
(bd (fX4_has g19 a2 s1) fun (r21 : Int32) (s20 : PH) =>
(if r21 = 0 then
(some ((-1 : Int32), s20))
else
(j4 s20))))
else
(bd (fX11_isDefined a2 s1) fun (r18 : Int32) (s17 : PH) =>
(if r18 = 0 then
(some ((-1 : Int32), s17))
else
(j4 s17))))))))))
set_option maxRecDepth 20000 in
set_option maxHeartbeats 2000000 in
theorem mX11_words (l : Launch) (n : Nat) (a1 : Int32) (a2 : Int32) (a3 : Int32) (s0 : PH) : Cti 148 l yX11_words cX11_words 4 (some .int) (rmOf 2 44) (fun E => [.ref (E.2.1 0), .int a1, .int a2, .int a3]) s0 (fX11_words n a1 a2 a3 s0) := by
  refine Cti.of (by decide) rfl (lv := fun E => [(0, .ref (E.2.1 0)), (1, .int a1), (2, .int a2), (3, .int a3)]) (fun _ => Nat.le_of_ble_eq_true rfl) (fun _ => rfl) (fun Γ hΓ _ C => ?_)
  subst hΓ
  unfold fX11_words
  refine rf_iload_n C dX11_words_0 rfl 1 rfl ?_
  refine rf_if_lt C 16 dX11_words_1 (by decide) (fun _ => ?_) (fun _ => ?_)
  · refine rf_iconst C (v := (-1 : Int32)) dX11_words_16 rfl ?_
    exact rf_iret C dX11_words_17
  refine rf_iload_n C dX11_words_4 rfl 1 rfl ?_
  refine rf_iconst C (v := (nI 2)) dX11_words_5 rfl ?_
  refine rf_icmp_gt C 16 dX11_words_6 (by decide) (fun _ => ?_) (fun _ => ?_)
  · refine rf_iconst C (v := (-1 : Int32)) dX11_words_16 rfl ?_
    exact rf_iret C dX11_words_17
  refine rf_iload_n C dX11_words_9 rfl 3 rfl ?_
  refine rf_callSi C (rmc := rmOf 0 0) [.int a3] (by decide) (mX11_isLookahead (gL Γ) a3 s0) mfX11_isLookahead msX11_isLookahead mlX11_173 rfl rfl rfl (Nat.le_of_ble_eq_true rfl) ⟨Nat.le_of_ble_eq_true rfl, Nat.le_of_ble_eq_true rfl⟩ dX11_words_10 (fun r2 s1 => ?_)
  refine rf_if_ne C 18 dX11_words_13 (by decide) (fun _ => ?_) (fun _ => ?_)
  · refine rf_iload_n C dX11_words_18 rfl 1 rfl ?_
    refine rf_iconst C (v := (nI 2)) dX11_words_19 rfl ?_
    refine rf_jn1 (fun _ => True) (fun  s3 => s3) (fun s3 => [(0, .ref ((gE Γ).2.1 0)), (1, .int a1), (2, .int a2), (3, .int a3)]) (fun s3 => []) 47 (fun s3 _ => ?_) (fun j4 hj4 => ?_)
    · refine rf_iload_n C dX11_words_47 rfl 1 rfl ?_
      refine rf_if_ne C 64 dX11_words_48 (by decide) (fun _ => ?_) (fun _ => ?_)
      · refine rf_iload_n C dX11_words_64 rfl 1 rfl ?_
        refine rf_iconst C (v := (nI 1)) dX11_words_65 rfl ?_
        refine rf_icmp_ne C 84 dX11_words_66 (by decide) (fun _ => ?_) (fun _ => ?_)
        · refine rf_aload_n C dX11_words_84 rfl 0 rfl ?_
          refine rf_get C (v := .ref ((gE Γ).2.1 13)) cfX11 flX11_40 (by decide) oX11 rfl dX11_words_85 ?_
          refine rf_iload_n C dX11_words_88 rfl 2 rfl ?_
          refine rf_callVw C (rmc := rmOf 0 0) [.int a2] (by decide) (mX3_aheadOf (gL Γ) a2 s3) mfX3_aheadOf mvX3_aheadOf mlX11_170 rfl oX3 rfl rfl rfl (Nat.le_of_ble_eq_true rfl) ⟨Nat.le_of_ble_eq_true rfl, Nat.le_of_ble_eq_true rfl⟩ dX11_words_89 (fun w6 s5 hw6 => ?_)
          refine rf_iload_n C dX11_words_92 rfl 3 rfl ?_
          refine rf_callVi C (rmc := rmOf 1 21) [.int a3] (by decide) (mX10_size (gL Γ) n w6 a3 s5 hw6) mfX10_size mvX10_size mlX11_176 rfl (oX10 hw6) rfl rfl rfl (Nat.le_of_ble_eq_true rfl) ⟨Nat.le_of_ble_eq_true rfl, Nat.le_of_ble_eq_true rfl⟩ dX11_words_93 (fun r8 s7 => ?_)
          exact rf_iret C dX11_words_96
        refine rf_aload_n C dX11_words_69 rfl 0 rfl ?_
        refine rf_get C (v := .ref ((gE Γ).2.1 13)) cfX11 flX11_40 (by decide) oX11 rfl dX11_words_70 ?_
        refine rf_iload_n C dX11_words_73 rfl 2 rfl ?_
        refine rf_callVw C (rmc := rmOf 0 0) [.int a2] (by decide) (mX3_followOf (gL Γ) a2 s3) mfX3_followOf mvX3_followOf mlX11_167 rfl oX3 rfl rfl rfl (Nat.le_of_ble_eq_true rfl) ⟨Nat.le_of_ble_eq_true rfl, Nat.le_of_ble_eq_true rfl⟩ dX11_words_74 (fun w10 s9 hw10 => ?_)
        refine rf_iload_n C dX11_words_77 rfl 3 rfl ?_
        refine rf_callVi C (rmc := rmOf 1 21) [.int a3] (by decide) (mX10_size (gL Γ) n w10 a3 s9 hw10) mfX10_size mvX10_size mlX11_176 rfl (oX10 hw10) rfl rfl rfl (Nat.le_of_ble_eq_true rfl) ⟨Nat.le_of_ble_eq_true rfl, Nat.le_of_ble_eq_true rfl⟩ dX11_words_78 (fun r12 s11 => ?_)
        refine rf_goto C 96 dX11_words_81 (by decide) ?_
        exact rf_iret C dX11_words_96
      refine rf_aload_n C dX11_words_51 rfl 0 rfl ?_
      refine rf_get C (v := .ref ((gE Γ).2.1 13)) cfX11 flX11_40 (by decide) oX11 rfl dX11_words_52 ?_
      refine rf_iload_n C dX11_words_55 rfl 2 rfl ?_
      refine rf_callVw C (rmc := rmOf 0 0) [.int a2] (by decide) (mX3_firstOf (gL Γ) a2 s3) mfX3_firstOf mvX3_firstOf mlX11_159 rfl oX3 rfl rfl rfl (Nat.le_of_ble_eq_true rfl) ⟨Nat.le_of_ble_eq_true rfl, Nat.le_of_ble_eq_true rfl⟩ dX11_words_56 (fun w14 s13 hw14 => ?_)
      refine rf_iload_n C dX11_words_59 rfl 3 rfl ?_
      refine rf_callVi C (rmc := rmOf 1 21) [.int a3] (by decide) (mX10_size (gL Γ) n w14 a3 s13 hw14) mfX10_size mvX10_size mlX11_176 rfl (oX10 hw14) rfl rfl rfl (Nat.le_of_ble_eq_true rfl) ⟨Nat.le_of_ble_eq_true rfl, Nat.le_of_ble_eq_true rfl⟩ dX11_words_60 (fun r16 s15 => ?_)
      exact rf_iret C dX11_words_63
    refine rf_icmp_ne C 37 dX11_words_20 (by decide) (fun _ => ?_) (fun _ => ?_)
    · refine rf_aload_n C dX11_words_37 rfl 0 rfl ?_
      refine rf_iload_n C dX11_words_38 rfl 2 rfl ?_
      refine rf_callVi C (rmc := rmOf 1 21) [.int a2] (by decide) (mX11_isDefined (gL Γ) a2 s1) mfX11_isDefined mvX11_isDefined mlX11_152 rfl oX11 rfl rfl rfl (Nat.le_of_ble_eq_true rfl) ⟨Nat.le_of_ble_eq_true rfl, Nat.le_of_ble_eq_true rfl⟩ dX11_words_39 (fun r18 s17 => ?_)
      refine rf_if_ne C 47 dX11_words_42 (by decide) (fun _ => ?_) (fun _ => ?_)
      · exact rf_sub [0, 1, 2, 3] rfl (hj4 s17 trivial)
      refine rf_iconst C (v := (-1 : Int32)) dX11_words_45 rfl ?_
      exact rf_iret C dX11_words_46
    refine rf_aload_n C dX11_words_23 rfl 0 rfl ?_
    refine rf_getG C cfX11 flX11_68 (by decide) oX11 (fun _ _ _ _ => rfl) dX11_words_24 (fun g19 hg19 => ?_)
    refine rf_iload_n C dX11_words_27 rfl 2 rfl ?_
    refine rf_callVi C (rmc := rmOf 0 0) [.int a2] (by decide) (mX4_has (gL Γ) g19 a2 s1 hg19) mfX4_has mvX4_has mlX11_113 rfl (oX4 hg19) rfl rfl rfl (Nat.le_of_ble_eq_true rfl) ⟨Nat.le_of_ble_eq_true rfl, Nat.le_of_ble_eq_true rfl⟩ dX11_words_28 (fun r21 s20 => ?_)
    refine rf_if_ne C 47 dX11_words_31 (by decide) (fun _ => ?_) (fun _ => ?_)
    · exact rf_sub [0, 1, 2, 3] rfl (hj4 s20 trivial)
    refine rf_goto C 45 dX11_words_34 (by decide) ?_
    refine rf_iconst C (v := (-1 : Int32)) dX11_words_45 rfl ?_
    exact rf_iret C dX11_words_46
  refine rf_iconst C (v := (-1 : Int32)) dX11_words_16 rfl ?_
  exact rf_iret C dX11_words_17

