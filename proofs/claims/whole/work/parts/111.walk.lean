def fX12_undo (n : Nat) (s0 : PH) : Option (Int32 × PH) :=
(if (s0.1 148 2) = 0 then
(some ((-2 : Int32), s0))
else
(lt (si s0 148 2 ((s0.1 148 2) - (nI 1))) fun (s1 : PH) =>
(lt (nI 0) fun (v2 : Int32) =>
(loo2 (fun (recrec5 : Int32 → PH → Option (Int32 × PH)) (v3 : Int32) (s4 : PH) =>
(if (nI 113) ≤ v3 then
(bd (fX12_lays n s4) fun _ (s6 : PH) =>
(some ((s6.1 148 2), s6)))
else
(ra 452 (((nI 113) * (s4.1 148 2)) + v3) (s4.1 150) fun (v7 : Int32) =>
(wa 113 v3 (lt (si s4 149 v3.toNatClampNeg v7) fun (s8 : PH) =>
(lt (v3 + (nI 1)) fun (v9 : Int32) =>
(recrec5 v9 s8))))))) n v2 s1))))
set_option maxRecDepth 20000 in
set_option maxHeartbeats 2000000 in
theorem mX12_undo (l : Launch) (n : Nat) (s0 : PH) : Cti 174 l yX12_undo cX12_undo 2 (some .int) (rmOf 7 156) (fun E => [.ref (E.2.1 148)]) s0 (fX12_undo n s0) := by
  refine Cti.of (by decide) rfl (lv := fun E => [(0, .ref (E.2.1 148))]) (fun _ => Nat.le_of_ble_eq_true rfl) (fun _ => rfl) (fun Γ hΓ _ C => ?_)
  subst hΓ
  unfold fX12_undo
  refine rf_aload_n C dX12_undo_0 rfl 0 rfl ?_
  refine rf_get C (v := .int (s0.1 148 2)) cfX12 flX12_211 (by decide) oX12 rfl dX12_undo_1 ?_
  refine rf_if_ne C 10 dX12_undo_4 (by decide) (fun _ => ?_) (fun _ => ?_)
  · refine rf_aload_n C dX12_undo_10 rfl 0 rfl ?_
    refine rf_dup C dX12_undo_11 rfl ?_
    refine rf_get C (v := .int (s0.1 148 2)) cfX12 flX12_211 (by decide) oX12 rfl dX12_undo_12 ?_
    refine rf_iconst C (v := (nI 1)) dX12_undo_15 rfl ?_
    refine rf_isub C dX12_undo_16 ?_
    refine rf_puti C cfX12 flX12_211 (by decide) rfl oX12 (fty := .int) rfl rfl rfl (fun _ _ _ _ => Nat.le_of_ble_eq_true rfl) (fun _ _ _ _ => rfl) dX12_undo_17 (fun s1 => ?_)
    refine rf_iconst C (v := (nI 0)) dX12_undo_20 rfl ?_
    refine rf_istore_n C (fun v2 => [(1, .int v2), (0, .ref ((gE Γ).2.1 148))]) dX12_undo_21 rfl (by decide) (fun _ => rfl) (fun v2 => ?_)
    refine rf_sub [1, 0] rfl ?_
    refine rf_loo2 (fun _ _ => True) (fun _ s4 => s4) (fun v3 s4 => [(0, .ref ((gE Γ).2.1 148)), (1, .int v3)]) (fun recrec5 hrec5 v3 s4 _ => ?_) n v2 s1 trivial
    refine rf_iload_n C dX12_undo_22 rfl 1 rfl ?_
    refine rf_bipush C (v := (nI 113)) dX12_undo_23 rfl ?_
    refine rf_icmp_ge C 54 dX12_undo_25 (by decide) (fun _ => ?_) (fun _ => ?_)
    · refine rf_aload_n C dX12_undo_54 rfl 0 rfl ?_
      refine rf_callVv C (rmc := rmOf 6 136) [] (by decide) (mX12_lays (gL Γ) n s4) mfX12_lays mvX12_lays mlX12_91 rfl oX12 rfl rfl rfl (Nat.le_of_ble_eq_true rfl) ⟨Nat.le_of_ble_eq_true rfl, Nat.le_of_ble_eq_true rfl⟩ dX12_undo_55 (fun s6 => ?_)
      refine rf_aload_n C dX12_undo_58 rfl 0 rfl ?_
      refine rf_get C (v := .int (s6.1 148 2)) cfX12 flX12_211 (by decide) oX12 rfl dX12_undo_59 ?_
      exact rf_iret C dX12_undo_62
    refine rf_aload_n C dX12_undo_28 rfl 0 rfl ?_
    refine rf_get C (v := .ref ((gE Γ).2.1 149)) cfX12 flX12_7 (by decide) oX12 rfl dX12_undo_29 ?_
    refine rf_iload_n C dX12_undo_32 rfl 1 rfl ?_
    refine rf_aload_n C dX12_undo_33 rfl 0 rfl ?_
    refine rf_get C (v := .ref ((gE Γ).2.1 150)) cfX12 flX12_13 (by decide) oX12 rfl dX12_undo_34 ?_
    refine rf_bipush C (v := (nI 113)) dX12_undo_37 rfl ?_
    refine rf_aload_n C dX12_undo_39 rfl 0 rfl ?_
    refine rf_get C (v := .int (s4.1 148 2)) cfX12 flX12_211 (by decide) oX12 rfl dX12_undo_40 ?_
    refine rf_imul C dX12_undo_43 ?_
    refine rf_iload_n C dX12_undo_44 rfl 1 rfl ?_
    refine rf_iadd C dX12_undo_45 ?_
    refine rf_iald C ar150 dX12_undo_46 (fun v7 => ?_)
    refine rf_iast C ar149 dX12_undo_47 (fun s8 => ?_)
    refine rf_iinc C (fun v9 => [(1, .int v9), (0, .ref ((gE Γ).2.1 148))]) dX12_undo_48 1 rfl rfl (by decide) (fun _ => rfl) (fun v9 => ?_)
    refine rf_goto C 22 dX12_undo_51 (by decide) ?_
    exact rf_sub [1, 0] rfl (hrec5 v9 s8 trivial)
  refine rf_bipush C (v := (-2 : Int32)) dX12_undo_7 rfl ?_
  exact rf_iret C dX12_undo_9

def fX12_mix (a1 : Int32) (s0 : PH) : Option (Unit × PH) :=
(lt (sl s0 148 32 (((31 : Int64) * (s0.2.1 148 32)) + a1.toInt64)) fun (s1 : PH) =>
(some ((), s1)))
set_option maxRecDepth 20000 in
set_option maxHeartbeats 2000000 in
theorem mX12_mix (l : Launch) (a1 : Int32) (s0 : PH) : Ctv 174 l yX12_mix cX12_mix 2 none (rmOf 0 0) (fun E => [.ref (E.2.1 148), .int a1]) s0 (fX12_mix a1 s0) := by
  refine Ctv.of (by decide) rfl (lv := fun E => [(0, .ref (E.2.1 148)), (1, .int a1)]) (fun _ => Nat.le_of_ble_eq_true rfl) (fun _ => rfl) (fun Γ hΓ _ C => ?_)
  subst hΓ
  unfold fX12_mix
  refine rf_aload_n C dX12_mix_0 rfl 0 rfl ?_
  refine rf_ldc2 C dX12_mix_1 klX12_309 ?_
  refine rf_aload_n C dX12_mix_4 rfl 0 rfl ?_
  refine rf_get C (v := .long (s0.2.1 148 32)) cfX12 flX12_311 (by decide) oX12 rfl dX12_mix_5 ?_
  refine rf_lmul C dX12_mix_8 ?_
  refine rf_iload_n C dX12_mix_9 rfl 1 rfl ?_
  refine rf_i2l C dX12_mix_10 ?_
  refine rf_ladd C dX12_mix_11 ?_
  refine rf_putl C cfX12 flX12_311 (by decide) rfl oX12 (fty := .long) rfl rfl rfl (fun _ _ _ _ => Nat.le_of_ble_eq_true rfl) (fun _ _ _ _ => rfl) dX12_mix_12 (fun s1 => ?_)
  exact rf_vret C dX12_mix_15

def fX12_digest (n : Nat) (s0 : PH) : Option (Int64 × PH) :=
(lt (sl s0 148 32 (17313 : Int64)) fun (s1 : PH) =>
(lt (nI 0) fun (v2 : Int32) =>
(loo2 (fun (recrec5 : Int32 → PH → Option (Int64 × PH)) (v3 : Int32) (s4 : PH) =>
(if (nI 6) ≤ v3 then
(lt (nI 0) fun (v6 : Int32) =>
(loo2 (fun (recrec9 : Int32 → PH → Option (Int64 × PH)) (v7 : Int32) (s8 : PH) =>
(bd (fX12_many s8) fun (r11 : Int32) (s10 : PH) =>
(if r11 ≤ v7 then
(lt (nI 0) fun (v12 : Int32) =>
(loo2 (fun (recrec15 : Int32 → PH → Option (Int64 × PH)) (v13 : Int32) (s14 : PH) =>
(if (nI 6) ≤ v13 then
(bd (fX12_deepest n (nI 0) s14) fun (r17 : Int32) (s16 : PH) =>
(bd (fX12_mix r17 s16) fun _ (s18 : PH) =>
(bd (fX12_deepest n (nI 1) s18) fun (r20 : Int32) (s19 : PH) =>
(bd (fX12_mix r20 s19) fun _ (s21 : PH) =>
(lt (nI 0) fun (v22 : Int32) =>
(loo2 (fun (recrec25 : Int32 → PH → Option (Int64 × PH)) (v23 : Int32) (s24 : PH) =>
(if (s24.1 148 7) ≤ v23 then
(bd (fX12_mix (s24.1 148 5) s24) fun _ (s26 : PH) =>
(some ((s26.2.1 148 32), s26)))
else
(ra 60 v23 (s24.1 152) fun (v27 : Int32) =>
(bd (fX12_mix v27 s24) fun _ (s28 : PH) =>
(lt (v23 + (nI 1)) fun (v29 : Int32) =>
(recrec25 v29 s28)))))) n v22 s21))))))
else
(bd (fX12_isDefined n v13 s14) fun (r31 : Int32) (s30 : PH) =>
(jn (fun (s32 : PH) =>
(lt (v13 + (nI 1)) fun (v34 : Int32) =>
(recrec15 v34 s32))) (fun (j33 : PH → Option (Int64 × PH)) =>
(if r31 = 0 then
(j33 s30)
else
(bd (fX12_mix v13 s30) fun _ (s35 : PH) =>
(lt (nI 1) fun (v36 : Int32) =>
(loo2 (fun (recrec39 : Int32 → PH → Option (Int64 × PH)) (v37 : Int32) (s38 : PH) =>
(if (nI 8) ≤ v37 then
(bd (fX12_count n ((nI 216) * v13) (nI 3) s38) fun (r41 : Int32) (s40 : PH) =>
(bd (fX12_mix r41 s40) fun _ (s42 : PH) =>
(bd (fX12_count n ((nI 1296) + ((nI 216) * v13)) (nI 3) s42) fun (r44 : Int32) (s43 : PH) =>
(bd (fX12_mix r44 s43) fun _ (s45 : PH) =>
(bd (fX12_depthOf n v13 s45) fun (r47 : Int32) (s46 : PH) =>
(bd (fX12_mix r47 s46) fun _ (s48 : PH) =>
(bd (fX12_approximateOf n v13 s48) fun (r50 : Int32) (s49 : PH) =>
(bd (fX12_mix r50 s49) fun _ (s51 : PH) =>
(bd (fX12_pairOf n v13 (nI 3) s51) fun (r53 : Int32) (s52 : PH) =>
(bd (fX12_mix r53 s52) fun _ (s54 : PH) =>
(j33 s54)))))))))))
else
(bd (fX12_tellName n v13 v37 s38) fun (r56 : Int32) (s55 : PH) =>
(bd (fX12_mix r56 s55) fun _ (s57 : PH) =>
(lt (v37 + (nI 1)) fun (v58 : Int32) =>
(recrec39 v58 s57)))))) n v36 s35))))))))) n v12 s10))
else
(bd (fX12_left v7 s10) fun (r60 : Int32) (s59 : PH) =>
(bd (fX12_mix r60 s59) fun _ (s61 : PH) =>
(bd (fX12_size v7 s61) fun (r63 : Int32) (s62 : PH) =>
(bd (fX12_mix r63 s62) fun _ (s64 : PH) =>
(lt (nI 0) fun (v65 : Int32) =>
(loo2 (fun (recrec68 : Int32 → PH → Option (Int64 × PH)) (v66 : Int32) (s67 : PH) =>
(bd (fX12_size v7 s67) fun (r70 : Int32) (s69 : PH) =>
(if r70 ≤ v66 then
(lt (nI 0) fun (v71 : Int32) =>
(loo2 (fun (recrec74 : Int32 → PH → Option (Int64 × PH)) (v72 : Int32) (s73 : PH) =>
(if (nI 4) ≤ v72 then
(lt (nI 0) fun (v75 : Int32) =>
(loo2 (fun (recrec78 : Int32 → PH → Option (Int64 × PH)) (v76 : Int32) (s77 : PH) =>
(if (nI 3) ≤ v76 then
(lt (v7 + (nI 1)) fun (v79 : Int32) =>
(recrec9 v79 s77))
else
(bd (fX12_marksOf n v7 v76 s77) fun (r81 : Int32) (s80 : PH) =>
(bd (fX12_mix r81 s80) fun _ (s82 : PH) =>
(lt (v76 + (nI 1)) fun (v83 : Int32) =>
(recrec78 v83 s82)))))) n v75 s73))
else
(bd (fX12_count n ((nI 2592) + ((nI 216) * v7)) v72 s73) fun (r85 : Int32) (s84 : PH) =>
(bd (fX12_mix r85 s84) fun _ (s86 : PH) =>
(lt (v72 + (nI 1)) fun (v87 : Int32) =>
(recrec74 v87 s86)))))) n v71 s69))
else
(bd (fX12_at v7 v66 s69) fun (r89 : Int32) (s88 : PH) =>
(bd (fX12_mix r89 s88) fun _ (s90 : PH) =>
(lt (v66 + (nI 1)) fun (v91 : Int32) =>
(recrec68 v91 s90))))))) n v65 s64))))))))) n v6 s4))
else
(bd (fX12_tell n v3 s4) fun (r93 : Int32) (s92 : PH) =>
(bd (fX12_mix r93 s92) fun _ (s94 : PH) =>
(lt (v3 + (nI 1)) fun (v95 : Int32) =>
(recrec5 v95 s94)))))) n v2 s1)))
set_option maxRecDepth 20000 in
set_option maxHeartbeats 2000000 in
theorem mX12_digest (l : Launch) (n : Nat) (s0 : PH) : Ctl 174 l yX12_digest cX12_digest 3 (some .long) (rmOf 6 138) (fun E => [.ref (E.2.1 148)]) s0 (fX12_digest n s0) := by
  refine Ctl.of (by decide) rfl (lv := fun E => [(0, .ref (E.2.1 148))]) (fun _ => Nat.le_of_ble_eq_true rfl) (fun _ => rfl) (fun Γ hΓ _ C => ?_)
  subst hΓ
  unfold fX12_digest
  refine rf_aload_n C dX12_digest_0 rfl 0 rfl ?_
  refine rf_ldc2 C dX12_digest_1 klX12_315 ?_
  refine rf_putl C cfX12 flX12_311 (by decide) rfl oX12 (fty := .long) rfl rfl rfl (fun _ _ _ _ => Nat.le_of_ble_eq_true rfl) (fun _ _ _ _ => rfl) dX12_digest_4 (fun s1 => ?_)
  refine rf_iconst C (v := (nI 0)) dX12_digest_7 rfl ?_
  refine rf_istore_n C (fun v2 => [(1, .int v2), (0, .ref ((gE Γ).2.1 148))]) dX12_digest_8 rfl (by decide) (fun _ => rfl) (fun v2 => ?_)
  refine rf_sub [1, 0] rfl ?_
  refine rf_loo2 (fun _ _ => True) (fun _ s4 => s4) (fun v3 s4 => [(0, .ref ((gE Γ).2.1 148)), (1, .int v3)]) (fun recrec5 hrec5 v3 s4 _ => ?_) n v2 s1 trivial
  refine rf_iload_n C dX12_digest_9 rfl 1 rfl ?_
  refine rf_bipush C (v := (nI 6)) dX12_digest_10 rfl ?_
  refine rf_icmp_ge C 30 dX12_digest_12 (by decide) (fun _ => ?_) (fun _ => ?_)
  · refine rf_iconst C (v := (nI 0)) dX12_digest_30 rfl ?_
    refine rf_istore_n C (fun v6 => [(1, .int v6), (0, .ref ((gE Γ).2.1 148))]) dX12_digest_31 rfl (by decide) (fun _ => rfl) (fun v6 => ?_)
    refine rf_sub [1, 0] rfl ?_
    refine rf_loo2 (fun _ _ => True) (fun _ s8 => s8) (fun v7 s8 => [(0, .ref ((gE Γ).2.1 148)), (1, .int v7)]) (fun recrec9 hrec9 v7 s8 _ => ?_) n v6 s4 trivial
    refine rf_iload_n C dX12_digest_32 rfl 1 rfl ?_
    refine rf_aload_n C dX12_digest_33 rfl 0 rfl ?_
    refine rf_callVi C (rmc := rmOf 0 0) [] (by decide) (mX12_many (gL Γ) s8) mfX12_many mvX12_many mlX12_94 rfl oX12 rfl rfl rfl (Nat.le_of_ble_eq_true rfl) ⟨Nat.le_of_ble_eq_true rfl, Nat.le_of_ble_eq_true rfl⟩ dX12_digest_34 (fun r11 s10 => ?_)
    refine rf_icmp_ge C 145 dX12_digest_37 (by decide) (fun _ => ?_) (fun _ => ?_)
    · refine rf_iconst C (v := (nI 0)) dX12_digest_145 rfl ?_
      refine rf_istore_n C (fun v12 => [(1, .int v12), (0, .ref ((gE Γ).2.1 148))]) dX12_digest_146 rfl (by decide) (fun _ => rfl) (fun v12 => ?_)
      refine rf_sub [1, 0] rfl ?_
      refine rf_loo2 (fun _ _ => True) (fun _ s14 => s14) (fun v13 s14 => [(0, .ref ((gE Γ).2.1 148)), (1, .int v13)]) (fun recrec15 hrec15 v13 s14 _ => ?_) n v12 s10 trivial
      refine rf_iload_n C dX12_digest_147 rfl 1 rfl ?_
      refine rf_bipush C (v := (nI 6)) dX12_digest_148 rfl ?_
      refine rf_icmp_ge C 256 dX12_digest_150 (by decide) (fun _ => ?_) (fun _ => ?_)
      · refine rf_aload_n C dX12_digest_256 rfl 0 rfl ?_
        refine rf_aload_n C dX12_digest_257 rfl 0 rfl ?_
        refine rf_iconst C (v := (nI 0)) dX12_digest_258 rfl ?_
        refine rf_callVi C (rmc := rmOf 5 114) [.int (nI 0)] (by decide) (mX12_deepest (gL Γ) n (nI 0) s14) mfX12_deepest mvX12_deepest mlX12_260 rfl oX12 rfl rfl rfl (Nat.le_of_ble_eq_true rfl) ⟨Nat.le_of_ble_eq_true rfl, Nat.le_of_ble_eq_true rfl⟩ dX12_digest_259 (fun r17 s16 => ?_)
        refine rf_callVv C (rmc := rmOf 0 0) [.int r17] (by decide) (mX12_mix (gL Γ) r17 s16) mfX12_mix mvX12_mix mlX12_317 rfl oX12 rfl rfl rfl (Nat.le_of_ble_eq_true rfl) ⟨Nat.le_of_ble_eq_true rfl, Nat.le_of_ble_eq_true rfl⟩ dX12_digest_262 (fun s18 => ?_)
        refine rf_aload_n C dX12_digest_265 rfl 0 rfl ?_
        refine rf_aload_n C dX12_digest_266 rfl 0 rfl ?_
        refine rf_iconst C (v := (nI 1)) dX12_digest_267 rfl ?_
        refine rf_callVi C (rmc := rmOf 5 114) [.int (nI 1)] (by decide) (mX12_deepest (gL Γ) n (nI 1) s18) mfX12_deepest mvX12_deepest mlX12_260 rfl oX12 rfl rfl rfl (Nat.le_of_ble_eq_true rfl) ⟨Nat.le_of_ble_eq_true rfl, Nat.le_of_ble_eq_true rfl⟩ dX12_digest_268 (fun r20 s19 => ?_)
        refine rf_callVv C (rmc := rmOf 0 0) [.int r20] (by decide) (mX12_mix (gL Γ) r20 s19) mfX12_mix mvX12_mix mlX12_317 rfl oX12 rfl rfl rfl (Nat.le_of_ble_eq_true rfl) ⟨Nat.le_of_ble_eq_true rfl, Nat.le_of_ble_eq_true rfl⟩ dX12_digest_271 (fun s21 => ?_)
        refine rf_iconst C (v := (nI 0)) dX12_digest_274 rfl ?_
        refine rf_istore_n C (fun v22 => [(1, .int v22), (0, .ref ((gE Γ).2.1 148))]) dX12_digest_275 rfl (by decide) (fun _ => rfl) (fun v22 => ?_)
        refine rf_sub [1, 0] rfl ?_
        refine rf_loo2 (fun _ _ => True) (fun _ s24 => s24) (fun v23 s24 => [(0, .ref ((gE Γ).2.1 148)), (1, .int v23)]) (fun recrec25 hrec25 v23 s24 _ => ?_) n v22 s21 trivial
        refine rf_iload_n C dX12_digest_276 rfl 1 rfl ?_
        refine rf_aload_n C dX12_digest_277 rfl 0 rfl ?_
        refine rf_get C (v := .int (s24.1 148 7)) cfX12 flX12_257 (by decide) oX12 rfl dX12_digest_278 ?_
        refine rf_icmp_ge C 300 dX12_digest_281 (by decide) (fun _ => ?_) (fun _ => ?_)
        · refine rf_aload_n C dX12_digest_300 rfl 0 rfl ?_
          refine rf_aload_n C dX12_digest_301 rfl 0 rfl ?_
          refine rf_get C (v := .int (s24.1 148 5)) cfX12 flX12_19 (by decide) oX12 rfl dX12_digest_302 ?_
          refine rf_callVv C (rmc := rmOf 0 0) [.int (s24.1 148 5)] (by decide) (mX12_mix (gL Γ) (s24.1 148 5) s24) mfX12_mix mvX12_mix mlX12_317 rfl oX12 rfl rfl rfl (Nat.le_of_ble_eq_true rfl) ⟨Nat.le_of_ble_eq_true rfl, Nat.le_of_ble_eq_true rfl⟩ dX12_digest_305 (fun s26 => ?_)
          refine rf_aload_n C dX12_digest_308 rfl 0 rfl ?_
          refine rf_get C (v := .long (s26.2.1 148 32)) cfX12 flX12_311 (by decide) oX12 rfl dX12_digest_309 ?_
          exact rf_lret C dX12_digest_312
        refine rf_aload_n C dX12_digest_284 rfl 0 rfl ?_
        refine rf_aload_n C dX12_digest_285 rfl 0 rfl ?_
        refine rf_get C (v := .ref ((gE Γ).2.1 152)) cfX12 flX12_23 (by decide) oX12 rfl dX12_digest_286 ?_
        refine rf_iload_n C dX12_digest_289 rfl 1 rfl ?_
        refine rf_iald C ar152 dX12_digest_290 (fun v27 => ?_)
        refine rf_callVv C (rmc := rmOf 0 0) [.int v27] (by decide) (mX12_mix (gL Γ) v27 s24) mfX12_mix mvX12_mix mlX12_317 rfl oX12 rfl rfl rfl (Nat.le_of_ble_eq_true rfl) ⟨Nat.le_of_ble_eq_true rfl, Nat.le_of_ble_eq_true rfl⟩ dX12_digest_291 (fun s28 => ?_)
        refine rf_iinc C (fun v29 => [(1, .int v29), (0, .ref ((gE Γ).2.1 148))]) dX12_digest_294 1 rfl rfl (by decide) (fun _ => rfl) (fun v29 => ?_)
        refine rf_goto C 276 dX12_digest_297 (by decide) ?_
        exact rf_sub [1, 0] rfl (hrec25 v29 s28 trivial)
      refine rf_aload_n C dX12_digest_153 rfl 0 rfl ?_
      refine rf_iload_n C dX12_digest_154 rfl 1 rfl ?_
      refine rf_callVi C (rmc := rmOf 2 44) [.int v13] (by decide) (mX12_isDefined (gL Γ) n v13 s14) mfX12_isDefined mvX12_isDefined mlX12_217 rfl oX12 rfl rfl rfl (Nat.le_of_ble_eq_true rfl) ⟨Nat.le_of_ble_eq_true rfl, Nat.le_of_ble_eq_true rfl⟩ dX12_digest_155 (fun r31 s30 => ?_)
      refine rf_jn1 (fun _ => True) (fun  s32 => s32) (fun s32 => [(0, .ref ((gE Γ).2.1 148)), (1, .int v13)]) (fun s32 => []) 250 (fun s32 _ => ?_) (fun j33 hj33 => ?_)
      · refine rf_iinc C (fun v34 => [(1, .int v34), (0, .ref ((gE Γ).2.1 148))]) dX12_digest_250 1 rfl rfl (by decide) (fun _ => rfl) (fun v34 => ?_)
        refine rf_goto C 147 dX12_digest_253 (by decide) ?_
        exact rf_sub [1, 0] rfl (hrec15 v34 s32 trivial)
      refine rf_if_eq C 250 dX12_digest_158 (by decide) (fun _ => ?_) (fun _ => ?_)
      · exact rf_sub [0, 1] rfl (hj33 s30 trivial)
      refine rf_aload_n C dX12_digest_161 rfl 0 rfl ?_
      refine rf_iload_n C dX12_digest_162 rfl 1 rfl ?_
      refine rf_callVv C (rmc := rmOf 0 0) [.int v13] (by decide) (mX12_mix (gL Γ) v13 s30) mfX12_mix mvX12_mix mlX12_317 rfl oX12 rfl rfl rfl (Nat.le_of_ble_eq_true rfl) ⟨Nat.le_of_ble_eq_true rfl, Nat.le_of_ble_eq_true rfl⟩ dX12_digest_163 (fun s35 => ?_)
      refine rf_iconst C (v := (nI 1)) dX12_digest_166 rfl ?_
      refine rf_istore_n C (fun v36 => [(2, .int v36), (0, .ref ((gE Γ).2.1 148)), (1, .int v13)]) dX12_digest_167 rfl (by decide) (fun _ => rfl) (fun v36 => ?_)
      refine rf_sub [1, 2, 0] rfl ?_
      refine rf_loo2 (fun _ _ => True) (fun _ s38 => s38) (fun v37 s38 => [(0, .ref ((gE Γ).2.1 148)), (1, .int v13), (2, .int v37)]) (fun recrec39 hrec39 v37 s38 _ => ?_) n v36 s35 trivial
      refine rf_iload_n C dX12_digest_168 rfl 2 rfl ?_
      refine rf_bipush C (v := (nI 8)) dX12_digest_169 rfl ?_
      refine rf_icmp_ge C 190 dX12_digest_171 (by decide) (fun _ => ?_) (fun _ => ?_)
      · refine rf_aload_n C dX12_digest_190 rfl 0 rfl ?_
        refine rf_aload_n C dX12_digest_191 rfl 0 rfl ?_
        refine rf_sipush C (v := (nI 216)) dX12_digest_192 rfl ?_
        refine rf_iload_n C dX12_digest_195 rfl 1 rfl ?_
        refine rf_imul C dX12_digest_196 ?_
        refine rf_iconst C (v := (nI 3)) dX12_digest_197 rfl ?_
        refine rf_callVi C (rmc := rmOf 1 23) [.int ((nI 216) * v13), .int (nI 3)] (by decide) (mX12_count (gL Γ) n ((nI 216) * v13) (nI 3) s38) mfX12_count mvX12_count mlX12_229 rfl oX12 rfl rfl rfl (Nat.le_of_ble_eq_true rfl) ⟨Nat.le_of_ble_eq_true rfl, Nat.le_of_ble_eq_true rfl⟩ dX12_digest_198 (fun r41 s40 => ?_)
        refine rf_callVv C (rmc := rmOf 0 0) [.int r41] (by decide) (mX12_mix (gL Γ) r41 s40) mfX12_mix mvX12_mix mlX12_317 rfl oX12 rfl rfl rfl (Nat.le_of_ble_eq_true rfl) ⟨Nat.le_of_ble_eq_true rfl, Nat.le_of_ble_eq_true rfl⟩ dX12_digest_201 (fun s42 => ?_)
        refine rf_aload_n C dX12_digest_204 rfl 0 rfl ?_
        refine rf_aload_n C dX12_digest_205 rfl 0 rfl ?_
        refine rf_sipush C (v := (nI 1296)) dX12_digest_206 rfl ?_
        refine rf_sipush C (v := (nI 216)) dX12_digest_209 rfl ?_
        refine rf_iload_n C dX12_digest_212 rfl 1 rfl ?_
        refine rf_imul C dX12_digest_213 ?_
        refine rf_iadd C dX12_digest_214 ?_
        refine rf_iconst C (v := (nI 3)) dX12_digest_215 rfl ?_
        refine rf_callVi C (rmc := rmOf 1 23) [.int ((nI 1296) + ((nI 216) * v13)), .int (nI 3)] (by decide) (mX12_count (gL Γ) n ((nI 1296) + ((nI 216) * v13)) (nI 3) s42) mfX12_count mvX12_count mlX12_229 rfl oX12 rfl rfl rfl (Nat.le_of_ble_eq_true rfl) ⟨Nat.le_of_ble_eq_true rfl, Nat.le_of_ble_eq_true rfl⟩ dX12_digest_216 (fun r44 s43 => ?_)
        refine rf_callVv C (rmc := rmOf 0 0) [.int r44] (by decide) (mX12_mix (gL Γ) r44 s43) mfX12_mix mvX12_mix mlX12_317 rfl oX12 rfl rfl rfl (Nat.le_of_ble_eq_true rfl) ⟨Nat.le_of_ble_eq_true rfl, Nat.le_of_ble_eq_true rfl⟩ dX12_digest_219 (fun s45 => ?_)
        refine rf_aload_n C dX12_digest_222 rfl 0 rfl ?_
        refine rf_aload_n C dX12_digest_223 rfl 0 rfl ?_
        refine rf_iload_n C dX12_digest_224 rfl 1 rfl ?_
        refine rf_callVi C (rmc := rmOf 3 71) [.int v13] (by decide) (mX12_depthOf (gL Γ) n v13 s45) mfX12_depthOf mvX12_depthOf mlX12_242 rfl oX12 rfl rfl rfl (Nat.le_of_ble_eq_true rfl) ⟨Nat.le_of_ble_eq_true rfl, Nat.le_of_ble_eq_true rfl⟩ dX12_digest_225 (fun r47 s46 => ?_)
        refine rf_callVv C (rmc := rmOf 0 0) [.int r47] (by decide) (mX12_mix (gL Γ) r47 s46) mfX12_mix mvX12_mix mlX12_317 rfl oX12 rfl rfl rfl (Nat.le_of_ble_eq_true rfl) ⟨Nat.le_of_ble_eq_true rfl, Nat.le_of_ble_eq_true rfl⟩ dX12_digest_228 (fun s48 => ?_)
        refine rf_aload_n C dX12_digest_231 rfl 0 rfl ?_
        refine rf_aload_n C dX12_digest_232 rfl 0 rfl ?_
        refine rf_iload_n C dX12_digest_233 rfl 1 rfl ?_
        refine rf_callVi C (rmc := rmOf 4 89) [.int v13] (by decide) (mX12_approximateOf (gL Γ) n v13 s48) mfX12_approximateOf mvX12_approximateOf mlX12_248 rfl oX12 rfl rfl rfl (Nat.le_of_ble_eq_true rfl) ⟨Nat.le_of_ble_eq_true rfl, Nat.le_of_ble_eq_true rfl⟩ dX12_digest_234 (fun r50 s49 => ?_)
        refine rf_callVv C (rmc := rmOf 0 0) [.int r50] (by decide) (mX12_mix (gL Γ) r50 s49) mfX12_mix mvX12_mix mlX12_317 rfl oX12 rfl rfl rfl (Nat.le_of_ble_eq_true rfl) ⟨Nat.le_of_ble_eq_true rfl, Nat.le_of_ble_eq_true rfl⟩ dX12_digest_237 (fun s51 => ?_)
        refine rf_aload_n C dX12_digest_240 rfl 0 rfl ?_
        refine rf_aload_n C dX12_digest_241 rfl 0 rfl ?_
        refine rf_iload_n C dX12_digest_242 rfl 1 rfl ?_
        refine rf_iconst C (v := (nI 3)) dX12_digest_243 rfl ?_
        refine rf_callVi C (rmc := rmOf 2 47) [.int v13, .int (nI 3)] (by decide) (mX12_pairOf (gL Γ) n v13 (nI 3) s51) mfX12_pairOf mvX12_pairOf mlX12_239 rfl oX12 rfl rfl rfl (Nat.le_of_ble_eq_true rfl) ⟨Nat.le_of_ble_eq_true rfl, Nat.le_of_ble_eq_true rfl⟩ dX12_digest_244 (fun r53 s52 => ?_)
        refine rf_callVv C (rmc := rmOf 0 0) [.int r53] (by decide) (mX12_mix (gL Γ) r53 s52) mfX12_mix mvX12_mix mlX12_317 rfl oX12 rfl rfl rfl (Nat.le_of_ble_eq_true rfl) ⟨Nat.le_of_ble_eq_true rfl, Nat.le_of_ble_eq_true rfl⟩ dX12_digest_247 (fun s54 => ?_)
        exact rf_sub [0, 1] rfl (hj33 s54 trivial)
      refine rf_aload_n C dX12_digest_174 rfl 0 rfl ?_
      refine rf_aload_n C dX12_digest_175 rfl 0 rfl ?_
      refine rf_iload_n C dX12_digest_176 rfl 1 rfl ?_
      refine rf_iload_n C dX12_digest_177 rfl 2 rfl ?_
      refine rf_callVi C (rmc := rmOf 3 65) [.int v13, .int v37] (by decide) (mX12_tellName (gL Γ) n v13 v37 s38) mfX12_tellName mvX12_tellName mlX12_220 rfl oX12 rfl rfl rfl (Nat.le_of_ble_eq_true rfl) ⟨Nat.le_of_ble_eq_true rfl, Nat.le_of_ble_eq_true rfl⟩ dX12_digest_178 (fun r56 s55 => ?_)
      refine rf_callVv C (rmc := rmOf 0 0) [.int r56] (by decide) (mX12_mix (gL Γ) r56 s55) mfX12_mix mvX12_mix mlX12_317 rfl oX12 rfl rfl rfl (Nat.le_of_ble_eq_true rfl) ⟨Nat.le_of_ble_eq_true rfl, Nat.le_of_ble_eq_true rfl⟩ dX12_digest_181 (fun s57 => ?_)
      refine rf_iinc C (fun v58 => [(2, .int v58), (0, .ref ((gE Γ).2.1 148)), (1, .int v13)]) dX12_digest_184 2 rfl rfl (by decide) (fun _ => rfl) (fun v58 => ?_)
      refine rf_goto C 168 dX12_digest_187 (by decide) ?_
      exact rf_sub [1, 2, 0] rfl (hrec39 v58 s57 trivial)
    refine rf_aload_n C dX12_digest_40 rfl 0 rfl ?_
    refine rf_aload_n C dX12_digest_41 rfl 0 rfl ?_
    refine rf_iload_n C dX12_digest_42 rfl 1 rfl ?_
    refine rf_callVi C (rmc := rmOf 0 0) [.int v7] (by decide) (mX12_left (gL Γ) v7 s10) mfX12_left mvX12_left mlX12_102 rfl oX12 rfl rfl rfl (Nat.le_of_ble_eq_true rfl) ⟨Nat.le_of_ble_eq_true rfl, Nat.le_of_ble_eq_true rfl⟩ dX12_digest_43 (fun r60 s59 => ?_)
    refine rf_callVv C (rmc := rmOf 0 0) [.int r60] (by decide) (mX12_mix (gL Γ) r60 s59) mfX12_mix mvX12_mix mlX12_317 rfl oX12 rfl rfl rfl (Nat.le_of_ble_eq_true rfl) ⟨Nat.le_of_ble_eq_true rfl, Nat.le_of_ble_eq_true rfl⟩ dX12_digest_46 (fun s61 => ?_)
    refine rf_aload_n C dX12_digest_49 rfl 0 rfl ?_
    refine rf_aload_n C dX12_digest_50 rfl 0 rfl ?_
    refine rf_iload_n C dX12_digest_51 rfl 1 rfl ?_
    refine rf_callVi C (rmc := rmOf 0 0) [.int v7] (by decide) (mX12_size (gL Γ) v7 s61) mfX12_size mvX12_size mlX12_117 rfl oX12 rfl rfl rfl (Nat.le_of_ble_eq_true rfl) ⟨Nat.le_of_ble_eq_true rfl, Nat.le_of_ble_eq_true rfl⟩ dX12_digest_52 (fun r63 s62 => ?_)
    refine rf_callVv C (rmc := rmOf 0 0) [.int r63] (by decide) (mX12_mix (gL Γ) r63 s62) mfX12_mix mvX12_mix mlX12_317 rfl oX12 rfl rfl rfl (Nat.le_of_ble_eq_true rfl) ⟨Nat.le_of_ble_eq_true rfl, Nat.le_of_ble_eq_true rfl⟩ dX12_digest_55 (fun s64 => ?_)
    refine rf_iconst C (v := (nI 0)) dX12_digest_58 rfl ?_
    refine rf_istore_n C (fun v65 => [(2, .int v65), (0, .ref ((gE Γ).2.1 148)), (1, .int v7)]) dX12_digest_59 rfl (by decide) (fun _ => rfl) (fun v65 => ?_)
    refine rf_sub [1, 2, 0] rfl ?_
    refine rf_loo2 (fun _ _ => True) (fun _ s67 => s67) (fun v66 s67 => [(0, .ref ((gE Γ).2.1 148)), (1, .int v7), (2, .int v66)]) (fun recrec68 hrec68 v66 s67 _ => ?_) n v65 s64 trivial
    refine rf_iload_n C dX12_digest_60 rfl 2 rfl ?_
    refine rf_aload_n C dX12_digest_61 rfl 0 rfl ?_
    refine rf_iload_n C dX12_digest_62 rfl 1 rfl ?_
    refine rf_callVi C (rmc := rmOf 0 0) [.int v7] (by decide) (mX12_size (gL Γ) v7 s67) mfX12_size mvX12_size mlX12_117 rfl oX12 rfl rfl rfl (Nat.le_of_ble_eq_true rfl) ⟨Nat.le_of_ble_eq_true rfl, Nat.le_of_ble_eq_true rfl⟩ dX12_digest_63 (fun r70 s69 => ?_)
    refine rf_icmp_ge C 85 dX12_digest_66 (by decide) (fun _ => ?_) (fun _ => ?_)
    · refine rf_iconst C (v := (nI 0)) dX12_digest_85 rfl ?_
      refine rf_istore_n C (fun v71 => [(2, .int v71), (0, .ref ((gE Γ).2.1 148)), (1, .int v7)]) dX12_digest_86 rfl (by decide) (fun _ => rfl) (fun v71 => ?_)
      refine rf_sub [1, 2, 0] rfl ?_
      refine rf_loo2 (fun _ _ => True) (fun _ s73 => s73) (fun v72 s73 => [(0, .ref ((gE Γ).2.1 148)), (1, .int v7), (2, .int v72)]) (fun recrec74 hrec74 v72 s73 _ => ?_) n v71 s69 trivial
      refine rf_iload_n C dX12_digest_87 rfl 2 rfl ?_
      refine rf_iconst C (v := (nI 4)) dX12_digest_88 rfl ?_
      refine rf_icmp_ge C 116 dX12_digest_89 (by decide) (fun _ => ?_) (fun _ => ?_)
      · refine rf_iconst C (v := (nI 0)) dX12_digest_116 rfl ?_
        refine rf_istore_n C (fun v75 => [(2, .int v75), (0, .ref ((gE Γ).2.1 148)), (1, .int v7)]) dX12_digest_117 rfl (by decide) (fun _ => rfl) (fun v75 => ?_)
        refine rf_sub [1, 2, 0] rfl ?_
        refine rf_loo2 (fun _ _ => True) (fun _ s77 => s77) (fun v76 s77 => [(0, .ref ((gE Γ).2.1 148)), (1, .int v7), (2, .int v76)]) (fun recrec78 hrec78 v76 s77 _ => ?_) n v75 s73 trivial
        refine rf_iload_n C dX12_digest_118 rfl 2 rfl ?_
        refine rf_iconst C (v := (nI 3)) dX12_digest_119 rfl ?_
        refine rf_icmp_ge C 139 dX12_digest_120 (by decide) (fun _ => ?_) (fun _ => ?_)
        · refine rf_iinc C (fun v79 => [(1, .int v79), (0, .ref ((gE Γ).2.1 148)), (2, .int v76)]) dX12_digest_139 1 rfl rfl (by decide) (fun _ => rfl) (fun v79 => ?_)
          refine rf_goto C 32 dX12_digest_142 (by decide) ?_
          exact rf_sub [1, 0] rfl (hrec9 v79 s77 trivial)
        refine rf_aload_n C dX12_digest_123 rfl 0 rfl ?_
        refine rf_aload_n C dX12_digest_124 rfl 0 rfl ?_
        refine rf_iload_n C dX12_digest_125 rfl 1 rfl ?_
        refine rf_iload_n C dX12_digest_126 rfl 2 rfl ?_
        refine rf_callVi C (rmc := rmOf 2 42) [.int v7, .int v76] (by decide) (mX12_marksOf (gL Γ) n v7 v76 s77) mfX12_marksOf mvX12_marksOf mlX12_232 rfl oX12 rfl rfl rfl (Nat.le_of_ble_eq_true rfl) ⟨Nat.le_of_ble_eq_true rfl, Nat.le_of_ble_eq_true rfl⟩ dX12_digest_127 (fun r81 s80 => ?_)
        refine rf_callVv C (rmc := rmOf 0 0) [.int r81] (by decide) (mX12_mix (gL Γ) r81 s80) mfX12_mix mvX12_mix mlX12_317 rfl oX12 rfl rfl rfl (Nat.le_of_ble_eq_true rfl) ⟨Nat.le_of_ble_eq_true rfl, Nat.le_of_ble_eq_true rfl⟩ dX12_digest_130 (fun s82 => ?_)
        refine rf_iinc C (fun v83 => [(2, .int v83), (0, .ref ((gE Γ).2.1 148)), (1, .int v7)]) dX12_digest_133 2 rfl rfl (by decide) (fun _ => rfl) (fun v83 => ?_)
        refine rf_goto C 118 dX12_digest_136 (by decide) ?_
        exact rf_sub [1, 2, 0] rfl (hrec78 v83 s82 trivial)
      refine rf_aload_n C dX12_digest_92 rfl 0 rfl ?_
      refine rf_aload_n C dX12_digest_93 rfl 0 rfl ?_
      refine rf_sipush C (v := (nI 2592)) dX12_digest_94 rfl ?_
      refine rf_sipush C (v := (nI 216)) dX12_digest_97 rfl ?_
      refine rf_iload_n C dX12_digest_100 rfl 1 rfl ?_
      refine rf_imul C dX12_digest_101 ?_
      refine rf_iadd C dX12_digest_102 ?_
      refine rf_iload_n C dX12_digest_103 rfl 2 rfl ?_
      refine rf_callVi C (rmc := rmOf 1 23) [.int ((nI 2592) + ((nI 216) * v7)), .int v72] (by decide) (mX12_count (gL Γ) n ((nI 2592) + ((nI 216) * v7)) v72 s73) mfX12_count mvX12_count mlX12_229 rfl oX12 rfl rfl rfl (Nat.le_of_ble_eq_true rfl) ⟨Nat.le_of_ble_eq_true rfl, Nat.le_of_ble_eq_true rfl⟩ dX12_digest_104 (fun r85 s84 => ?_)
      refine rf_callVv C (rmc := rmOf 0 0) [.int r85] (by decide) (mX12_mix (gL Γ) r85 s84) mfX12_mix mvX12_mix mlX12_317 rfl oX12 rfl rfl rfl (Nat.le_of_ble_eq_true rfl) ⟨Nat.le_of_ble_eq_true rfl, Nat.le_of_ble_eq_true rfl⟩ dX12_digest_107 (fun s86 => ?_)
      refine rf_iinc C (fun v87 => [(2, .int v87), (0, .ref ((gE Γ).2.1 148)), (1, .int v7)]) dX12_digest_110 2 rfl rfl (by decide) (fun _ => rfl) (fun v87 => ?_)
      refine rf_goto C 87 dX12_digest_113 (by decide) ?_
      exact rf_sub [1, 2, 0] rfl (hrec74 v87 s86 trivial)
    refine rf_aload_n C dX12_digest_69 rfl 0 rfl ?_
    refine rf_aload_n C dX12_digest_70 rfl 0 rfl ?_
    refine rf_iload_n C dX12_digest_71 rfl 1 rfl ?_
    refine rf_iload_n C dX12_digest_72 rfl 2 rfl ?_
    refine rf_callVi C (rmc := rmOf 0 0) [.int v7, .int v66] (by decide) (mX12_at (gL Γ) v7 v66 s69) mfX12_at mvX12_at mlX12_109 rfl oX12 rfl rfl rfl (Nat.le_of_ble_eq_true rfl) ⟨Nat.le_of_ble_eq_true rfl, Nat.le_of_ble_eq_true rfl⟩ dX12_digest_73 (fun r89 s88 => ?_)
    refine rf_callVv C (rmc := rmOf 0 0) [.int r89] (by decide) (mX12_mix (gL Γ) r89 s88) mfX12_mix mvX12_mix mlX12_317 rfl oX12 rfl rfl rfl (Nat.le_of_ble_eq_true rfl) ⟨Nat.le_of_ble_eq_true rfl, Nat.le_of_ble_eq_true rfl⟩ dX12_digest_76 (fun s90 => ?_)
    refine rf_iinc C (fun v91 => [(2, .int v91), (0, .ref ((gE Γ).2.1 148)), (1, .int v7)]) dX12_digest_79 2 rfl rfl (by decide) (fun _ => rfl) (fun v91 => ?_)
    refine rf_goto C 60 dX12_digest_82 (by decide) ?_
    exact rf_sub [1, 2, 0] rfl (hrec68 v91 s90 trivial)
  refine rf_aload_n C dX12_digest_15 rfl 0 rfl ?_
  refine rf_aload_n C dX12_digest_16 rfl 0 rfl ?_
  refine rf_iload_n C dX12_digest_17 rfl 1 rfl ?_
  refine rf_callVi C (rmc := rmOf 3 65) [.int v3] (by decide) (mX12_tell (gL Γ) n v3 s4) mfX12_tell mvX12_tell mlX12_306 rfl oX12 rfl rfl rfl (Nat.le_of_ble_eq_true rfl) ⟨Nat.le_of_ble_eq_true rfl, Nat.le_of_ble_eq_true rfl⟩ dX12_digest_18 (fun r93 s92 => ?_)
  refine rf_callVv C (rmc := rmOf 0 0) [.int r93] (by decide) (mX12_mix (gL Γ) r93 s92) mfX12_mix mvX12_mix mlX12_317 rfl oX12 rfl rfl rfl (Nat.le_of_ble_eq_true rfl) ⟨Nat.le_of_ble_eq_true rfl, Nat.le_of_ble_eq_true rfl⟩ dX12_digest_21 (fun s94 => ?_)
  refine rf_iinc C (fun v95 => [(1, .int v95), (0, .ref ((gE Γ).2.1 148))]) dX12_digest_24 1 rfl rfl (by decide) (fun _ => rfl) (fun v95 => ?_)
  refine rf_goto C 9 dX12_digest_27 (by decide) ?_
  exact rf_sub [1, 0] rfl (hrec5 v95 s94 trivial)

