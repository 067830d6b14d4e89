def fX12_readsRule (n : Nat) (s0 : PH) : Option (Int32 × PH) :=
(bd (fX12_isAt (nI 65) (nI 70) s0) fun (r2 : Int32) (s1 : PH) =>
(if r2 = 0 then
(lt (si s1 148 22 (nI 1)) fun (s30 : PH) =>
(some ((nI 0), s30)))
else
(ra 100 (s1.1 148 21) (s1.1 151) fun (v3 : Int32) =>
(lt (v3 - (nI 65)) fun (v4 : Int32) =>
(lt (nI 0) fun (v5 : Int32) =>
(loo2 (fun (recrec8 : Int32 → PH → Option (Int32 × PH)) (v6 : Int32) (s7 : PH) =>
(ra 113 (nI 0) (s7.1 165) fun (v9 : Int32) =>
(if v9 ≤ v6 then
(if (s7.1 148 22) ≤ 0 then
(lt (si s7 148 21 ((s7.1 148 21) + (nI 1))) fun (s10 : PH) =>
(bd (fX12_takes (nI 61) s10) fun (r12 : Int32) (s11 : PH) =>
(if r12 = 0 then
(some ((nI 0), s11))
else
(bd (fX12_readsSide n v4 s11) fun (r14 : Int32) (s13 : PH) =>
(if r14 = 0 then
(some ((nI 0), s13))
else
(loo1 (fun (recrec16 : PH → Option (Int32 × PH))  (s15 : PH) =>
(bd (fX12_isAt (nI 124) (nI 124) s15) fun (r18 : Int32) (s17 : PH) =>
(if r18 = 0 then
(bd (fX12_takes (nI 59) s17) fun (r20 : Int32) (s19 : PH) =>
(rz r20 s19))
else
(lt (si s17 148 21 ((s17.1 148 21) + (nI 1))) fun (s21 : PH) =>
(bd (fX12_readsSide n v4 s21) fun (r23 : Int32) (s22 : PH) =>
(if r23 = 0 then
(some ((nI 0), s22))
else
(recrec16 s22))))))) n s13))))))
else
(some ((nI 0), s7)))
else
(ra 113 ((nI 1) + v6) (s7.1 165) fun (v24 : Int32) =>
(jn (fun (v25 : Int32) (s26 : PH) =>
(lt (si s26 148 22 v25) fun (s28 : PH) =>
(lt (v6 + (nI 1)) fun (v29 : Int32) =>
(recrec8 v29 s28)))) (fun (j27 : Int32 → PH → Option (Int32 × PH)) =>
(if v24 = v4 then
(j27 (nI 2) s7)
else
(j27 (s7.1 148 22) s7)))))))) n v5 s1))))))
set_option maxRecDepth 20000 in
set_option maxHeartbeats 2000000 in
theorem mX12_readsRule (l : Launch) (n : Nat) (s0 : PH) : Cti 174 l yX12_readsRule cX12_readsRule 3 (some .boolean) (rmOf 3 66) (fun E => [.ref (E.2.1 148)]) s0 (fX12_readsRule n s0) := by
  refine Cti.of (by decide) rfl (lv := fun E => [(0, .ref (E.2.1 148))]) (fun _ => Nat.le_of_ble_eq_true rfl) (fun _ => rfl) (fun Γ hΓ _ C => ?_)
  subst hΓ
  unfold fX12_readsRule
  refine rf_aload_n C dX12_readsRule_0 rfl 0 rfl ?_
  refine rf_bipush C (v := (nI 65)) dX12_readsRule_1 rfl ?_
  refine rf_bipush C (v := (nI 70)) dX12_readsRule_3 rfl ?_
  refine rf_callVi C (rmc := rmOf 1 22) [.int (nI 65), .int (nI 70)] (by decide) (mX12_isAt (gL Γ) (nI 65) (nI 70) s0) mfX12_isAt mvX12_isAt mlX12_191 rfl oX12 rfl rfl rfl (Nat.le_of_ble_eq_true rfl) ⟨Nat.le_of_ble_eq_true rfl, Nat.le_of_ble_eq_true rfl⟩ dX12_readsRule_5 (fun r2 s1 => ?_)
  refine rf_if_ne C 18 dX12_readsRule_8 (by decide) (fun _ => ?_) (fun _ => ?_)
  · refine rf_aload_n C dX12_readsRule_18 rfl 0 rfl ?_
    refine rf_get C (v := .ref ((gE Γ).2.1 151)) cfX12 flX12_16 (by decide) oX12 rfl dX12_readsRule_19 ?_
    refine rf_aload_n C dX12_readsRule_22 rfl 0 rfl ?_
    refine rf_get C (v := .int (s1.1 148 21)) cfX12 flX12_188 (by decide) oX12 rfl dX12_readsRule_23 ?_
    refine rf_iald C ar151 dX12_readsRule_26 (fun v3 => ?_)
    refine rf_bipush C (v := (nI 65)) dX12_readsRule_27 rfl ?_
    refine rf_isub C dX12_readsRule_29 ?_
    refine rf_istore_n C (fun v4 => [(1, .int v4), (0, .ref ((gE Γ).2.1 148))]) dX12_readsRule_30 rfl (by decide) (fun _ => rfl) (fun v4 => ?_)
    refine rf_iconst C (v := (nI 0)) dX12_readsRule_31 rfl ?_
    refine rf_istore_n C (fun v5 => [(2, .int v5), (1, .int v4), (0, .ref ((gE Γ).2.1 148))]) dX12_readsRule_32 rfl (by decide) (fun _ => rfl) (fun v5 => ?_)
    refine rf_sub [2, 1, 0] rfl ?_
    refine rf_loo2 (fun _ _ => True) (fun _ s7 => s7) (fun v6 s7 => [(0, .ref ((gE Γ).2.1 148)), (1, .int v4), (2, .int v6)]) (fun recrec8 hrec8 v6 s7 _ => ?_) n v5 s1 trivial
    refine rf_iload_n C dX12_readsRule_33 rfl 2 rfl ?_
    refine rf_aload_n C dX12_readsRule_34 rfl 0 rfl ?_
    refine rf_get C (v := .ref ((gE Γ).2.1 165)) cfX12 flX12_63 (by decide) oX12 rfl dX12_readsRule_35 ?_
    refine rf_iconst C (v := (nI 0)) dX12_readsRule_38 rfl ?_
    refine rf_iald C ar165 dX12_readsRule_39 (fun v9 => ?_)
    refine rf_icmp_ge C 73 dX12_readsRule_40 (by decide) (fun _ => ?_) (fun _ => ?_)
    · refine rf_aload_n C dX12_readsRule_73 rfl 0 rfl ?_
      refine rf_get C (v := .int (s7.1 148 22)) cfX12 flX12_195 (by decide) oX12 rfl dX12_readsRule_74 ?_
      refine rf_if_le C 82 dX12_readsRule_77 (by decide) (fun _ => ?_) (fun _ => ?_)
      · refine rf_aload_n C dX12_readsRule_82 rfl 0 rfl ?_
        refine rf_dup C dX12_readsRule_83 rfl ?_
        refine rf_get C (v := .int (s7.1 148 21)) cfX12 flX12_188 (by decide) oX12 rfl dX12_readsRule_84 ?_
        refine rf_iconst C (v := (nI 1)) dX12_readsRule_87 rfl ?_
        refine rf_iadd C dX12_readsRule_88 ?_
        refine rf_puti C cfX12 flX12_188 (by decide) rfl oX12 (fty := .int) rfl rfl rfl (fun _ _ _ _ => Nat.le_of_ble_eq_true rfl) (fun _ _ _ _ => rfl) dX12_readsRule_89 (fun s10 => ?_)
        refine rf_aload_n C dX12_readsRule_92 rfl 0 rfl ?_
        refine rf_bipush C (v := (nI 61)) dX12_readsRule_93 rfl ?_
        refine rf_callVi C (rmc := rmOf 2 44) [.int (nI 61)] (by decide) (mX12_takes (gL Γ) (nI 61) s10) mfX12_takes mvX12_takes mlX12_198 rfl oX12 rfl rfl rfl (Nat.le_of_ble_eq_true rfl) ⟨Nat.le_of_ble_eq_true rfl, Nat.le_of_ble_eq_true rfl⟩ dX12_readsRule_95 (fun r12 s11 => ?_)
        refine rf_if_eq C 109 dX12_readsRule_98 (by decide) (fun _ => ?_) (fun _ => ?_)
        · refine rf_iconst C (v := (nI 0)) dX12_readsRule_109 rfl ?_
          exact rf_zret C rfl dX12_readsRule_110
        refine rf_aload_n C dX12_readsRule_101 rfl 0 rfl ?_
        refine rf_iload_n C dX12_readsRule_102 rfl 1 rfl ?_
        refine rf_callVi C (rmc := rmOf 2 44) [.int v4] (by decide) (mX12_readsSide (gL Γ) n v4 s11) mfX12_readsSide mvX12_readsSide mlX12_201 rfl oX12 rfl rfl rfl (Nat.le_of_ble_eq_true rfl) ⟨Nat.le_of_ble_eq_true rfl, Nat.le_of_ble_eq_true rfl⟩ dX12_readsRule_103 (fun r14 s13 => ?_)
        refine rf_if_ne C 111 dX12_readsRule_106 (by decide) (fun _ => ?_) (fun _ => ?_)
        · refine rf_sub [0, 1] rfl ?_
          refine rf_loo1 (fun _ => True) (fun  s15 => s15) (fun s15 => [(0, .ref ((gE Γ).2.1 148)), (1, .int v4)]) (fun recrec16 hrec16 s15 _ => ?_) n s13 trivial
          refine rf_aload_n C dX12_readsRule_111 rfl 0 rfl ?_
          refine rf_bipush C (v := (nI 124)) dX12_readsRule_112 rfl ?_
          refine rf_bipush C (v := (nI 124)) dX12_readsRule_114 rfl ?_
          refine rf_callVi C (rmc := rmOf 1 22) [.int (nI 124), .int (nI 124)] (by decide) (mX12_isAt (gL Γ) (nI 124) (nI 124) s15) mfX12_isAt mvX12_isAt mlX12_191 rfl oX12 rfl rfl rfl (Nat.le_of_ble_eq_true rfl) ⟨Nat.le_of_ble_eq_true rfl, Nat.le_of_ble_eq_true rfl⟩ dX12_readsRule_116 (fun r18 s17 => ?_)
          refine rf_if_eq C 142 dX12_readsRule_119 (by decide) (fun _ => ?_) (fun _ => ?_)
          · refine rf_aload_n C dX12_readsRule_142 rfl 0 rfl ?_
            refine rf_bipush C (v := (nI 59)) dX12_readsRule_143 rfl ?_
            refine rf_callVi C (rmc := rmOf 2 44) [.int (nI 59)] (by decide) (mX12_takes (gL Γ) (nI 59) s17) mfX12_takes mvX12_takes mlX12_198 rfl oX12 rfl rfl rfl (Nat.le_of_ble_eq_true rfl) ⟨Nat.le_of_ble_eq_true rfl, Nat.le_of_ble_eq_true rfl⟩ dX12_readsRule_145 (fun r20 s19 => ?_)
            exact rf_zretv C dX12_readsRule_148
          refine rf_aload_n C dX12_readsRule_122 rfl 0 rfl ?_
          refine rf_dup C dX12_readsRule_123 rfl ?_
          refine rf_get C (v := .int (s17.1 148 21)) cfX12 flX12_188 (by decide) oX12 rfl dX12_readsRule_124 ?_
          refine rf_iconst C (v := (nI 1)) dX12_readsRule_127 rfl ?_
          refine rf_iadd C dX12_readsRule_128 ?_
          refine rf_puti C cfX12 flX12_188 (by decide) rfl oX12 (fty := .int) rfl rfl rfl (fun _ _ _ _ => Nat.le_of_ble_eq_true rfl) (fun _ _ _ _ => rfl) dX12_readsRule_129 (fun s21 => ?_)
          refine rf_aload_n C dX12_readsRule_132 rfl 0 rfl ?_
          refine rf_iload_n C dX12_readsRule_133 rfl 1 rfl ?_
          refine rf_callVi C (rmc := rmOf 2 44) [.int v4] (by decide) (mX12_readsSide (gL Γ) n v4 s21) mfX12_readsSide mvX12_readsSide mlX12_201 rfl oX12 rfl rfl rfl (Nat.le_of_ble_eq_true rfl) ⟨Nat.le_of_ble_eq_true rfl, Nat.le_of_ble_eq_true rfl⟩ dX12_readsRule_134 (fun r23 s22 => ?_)
          refine rf_if_ne C 111 dX12_readsRule_137 (by decide) (fun _ => ?_) (fun _ => ?_)
          · exact rf_sub [0, 1] rfl (hrec16 s22 trivial)
          refine rf_iconst C (v := (nI 0)) dX12_readsRule_140 rfl ?_
          exact rf_zret C rfl dX12_readsRule_141
        refine rf_iconst C (v := (nI 0)) dX12_readsRule_109 rfl ?_
        exact rf_zret C rfl dX12_readsRule_110
      refine rf_iconst C (v := (nI 0)) dX12_readsRule_80 rfl ?_
      exact rf_zret C rfl dX12_readsRule_81
    refine rf_aload_n C dX12_readsRule_43 rfl 0 rfl ?_
    refine rf_aload_n C dX12_readsRule_44 rfl 0 rfl ?_
    refine rf_get C (v := .ref ((gE Γ).2.1 165)) cfX12 flX12_63 (by decide) oX12 rfl dX12_readsRule_45 ?_
    refine rf_iconst C (v := (nI 1)) dX12_readsRule_48 rfl ?_
    refine rf_iload_n C dX12_readsRule_49 rfl 2 rfl ?_
    refine rf_iadd C dX12_readsRule_50 ?_
    refine rf_iald C ar165 dX12_readsRule_51 (fun v24 => ?_)
    refine rf_iload_n C dX12_readsRule_52 rfl 1 rfl ?_
    refine rf_jn2 (fun _ _ => True) (fun _ s26 => s26) (fun v25 s26 => [(0, .ref ((gE Γ).2.1 148)), (1, .int v4), (2, .int v6)]) (fun v25 s26 => [.int v25, .ref ((gE Γ).2.1 148)]) 64 (fun v25 s26 _ => ?_) (fun j27 hj27 => ?_)
    · refine rf_puti C cfX12 flX12_195 (by decide) rfl oX12 (fty := .int) rfl rfl rfl (fun _ _ _ _ => Nat.le_of_ble_eq_true rfl) (fun _ _ _ _ => rfl) dX12_readsRule_64 (fun s28 => ?_)
      refine rf_iinc C (fun v29 => [(2, .int v29), (0, .ref ((gE Γ).2.1 148)), (1, .int v4)]) dX12_readsRule_67 2 rfl rfl (by decide) (fun _ => rfl) (fun v29 => ?_)
      refine rf_goto C 33 dX12_readsRule_70 (by decide) ?_
      exact rf_sub [1, 2, 0] rfl (hrec8 v29 s28 trivial)
    refine rf_icmp_ne C 60 dX12_readsRule_53 (by decide) (fun _ => ?_) (fun _ => ?_)
    · refine rf_aload_n C dX12_readsRule_60 rfl 0 rfl ?_
      refine rf_get C (v := .int (s7.1 148 22)) cfX12 flX12_195 (by decide) oX12 rfl dX12_readsRule_61 ?_
      exact rf_sub [0, 1, 2] rfl (hj27 (s7.1 148 22) s7 trivial)
    refine rf_iconst C (v := (nI 2)) dX12_readsRule_56 rfl ?_
    refine rf_goto C 64 dX12_readsRule_57 (by decide) ?_
    exact rf_sub [0, 1, 2] rfl (hj27 (nI 2) s7 trivial)
  refine rf_aload_n C dX12_readsRule_11 rfl 0 rfl ?_
  refine rf_iconst C (v := (nI 1)) dX12_readsRule_12 rfl ?_
  refine rf_puti C cfX12 flX12_195 (by decide) rfl oX12 (fty := .int) rfl rfl rfl (fun _ _ _ _ => Nat.le_of_ble_eq_true rfl) (fun _ _ _ _ => rfl) dX12_readsRule_13 (fun s30 => ?_)
  refine rf_iconst C (v := (nI 0)) dX12_readsRule_16 rfl ?_
  exact rf_zret C rfl dX12_readsRule_17

def fX12_finds (n : Nat) (s0 : PH) : Option (Unit × PH) :=
(lt (si s0 148 21 (nI 0)) fun (s1 : PH) =>
(lt (nI 1) fun (v2 : Int32) =>
(loo2 (fun (recrec5 : Int32 → PH → Option (Unit × PH)) (v3 : Int32) (s4 : PH) =>
(jn (fun (s6 : PH) =>
(jn (fun (v8 : Int32) (s9 : PH) =>
(lt (si s9 148 22 v8) fun (s11 : PH) =>
(some ((), s11)))) (fun (j10 : Int32 → PH → Option (Unit × PH)) =>
(if v3 = 0 then
(j10 (nI 5) s6)
else
(j10 (nI 0) s6))))) (fun (j7 : PH → Option (Unit × PH)) =>
(if (s4.1 148 4) ≤ (s4.1 148 21) then
(j7 s4)
else
(if v3 = 0 then
(j7 s4)
else
(jn (fun (v12 : Int32) (s13 : PH) =>
(lt v12 fun (v15 : Int32) =>
(bd (fX12_isAt (nI 65) (nI 70) s13) fun (r17 : Int32) (s16 : PH) =>
(jn (fun (v18 : Int32) (s19 : PH) =>
(lt v18 fun (v21 : Int32) =>
(lt (nI 0) fun (v22 : Int32) =>
(loo3 (fun (recrec26 : Int32 → Int32 → PH → Option (Unit × PH)) (v23 : Int32) (v24 : Int32) (s25 : PH) =>
(ra 113 (nI 0) (s25.1 165) fun (v27 : Int32) =>
(if v27 ≤ v24 then
(jn (fun (v28 : Int32) (s29 : PH) =>
(lt v28 fun (v31 : Int32) =>
(jn (fun (v32 : Int32) (s33 : PH) =>
(lt (si s33 148 21 ((s29.1 148 21) + v32)) fun (s35 : PH) =>
(recrec5 v31 s35))) (fun (j34 : Int32 → PH → Option (Unit × PH)) =>
(if v31 = 0 then
(j34 (nI 0) s29)
else
(j34 (nI 1) s29)))))) (fun (j30 : Int32 → PH → Option (Unit × PH)) =>
(if v23 = 0 then
(j30 (nI 1) s25)
else
(j30 (nI 0) s25))))
else
(jn (fun (v36 : Int32) (s37 : PH) =>
(lt v36 fun (v39 : Int32) =>
(lt (v24 + (nI 1)) fun (v40 : Int32) =>
(recrec26 v39 v40 s37)))) (fun (j38 : Int32 → PH → Option (Unit × PH)) =>
(jn (fun (s41 : PH) =>
(j38 (nI 0) s41)) (fun (j42 : PH → Option (Unit × PH)) =>
(if v23 = 0 then
(j42 s25)
else
(ra 113 ((nI 1) + v24) (s25.1 165) fun (v43 : Int32) =>
(ra 100 (s25.1 148 21) (s25.1 151) fun (v44 : Int32) =>
(if v43 = (v44 - (nI 65)) then
(j42 s25)
else
(j38 (nI 1) s25)))))))))))) n v21 v22 s19)))) (fun (j20 : Int32 → PH → Option (Unit × PH)) =>
(jn (fun (s45 : PH) =>
(j20 (nI 0) s45)) (fun (j46 : PH → Option (Unit × PH)) =>
(if r17 = 0 then
(j46 s16)
else
(if v15 = 0 then
(j20 (nI 1) s16)
else
(j46 s16)))))))))) (fun (j14 : Int32 → PH → Option (Unit × PH)) =>
(jn (fun (s47 : PH) =>
(j14 (nI 0) s47)) (fun (j48 : PH → Option (Unit × PH)) =>
(if (s4.1 148 4) ≤ ((s4.1 148 21) + (nI 1)) then
(j48 s4)
else
(ra 100 ((s4.1 148 21) + (nI 1)) (s4.1 151) fun (v49 : Int32) =>
(if v49 = (nI 61) then
(j14 (nI 1) s4)
else
(j48 s4))))))))))))) n v2 s1)))
set_option maxRecDepth 20000 in
set_option maxHeartbeats 2000000 in
theorem mX12_finds (l : Launch) (n : Nat) (s0 : PH) : Ctv 174 l yX12_finds cX12_finds 5 none (rmOf 2 44) (fun E => [.ref (E.2.1 148)]) s0 (fX12_finds n s0) := by
  refine Ctv.of (by decide) rfl (lv := fun E => [(0, .ref (E.2.1 148))]) (fun _ => Nat.le_of_ble_eq_true rfl) (fun _ => rfl) (fun Γ hΓ _ C => ?_)
  subst hΓ
  unfold fX12_finds
  refine rf_aload_n C dX12_finds_0 rfl 0 rfl ?_
  refine rf_iconst C (v := (nI 0)) dX12_finds_1 rfl ?_
  refine rf_puti C cfX12 flX12_188 (by decide) rfl oX12 (fty := .int) rfl rfl rfl (fun _ _ _ _ => Nat.le_of_ble_eq_true rfl) (fun _ _ _ _ => rfl) dX12_finds_2 (fun s1 => ?_)
  refine rf_iconst C (v := (nI 1)) dX12_finds_5 rfl ?_
  refine rf_istore_n C (fun v2 => [(1, .int v2), (0, .ref ((gE Γ).2.1 148))]) dX12_finds_6 rfl (by decide) (fun _ => rfl) (fun v2 => ?_)
  refine rf_sub [1, 0] rfl ?_
  refine rf_loo2 (fun _ _ => True) (fun _ s4 => s4) (fun v3 s4 => [(0, .ref ((gE Γ).2.1 148)), (1, .int v3)]) (fun recrec5 hrec5 v3 s4 _ => ?_) n v2 s1 trivial
  refine rf_aload_n C dX12_finds_7 rfl 0 rfl ?_
  refine rf_get C (v := .int (s4.1 148 21)) cfX12 flX12_188 (by decide) oX12 rfl dX12_finds_8 ?_
  refine rf_aload_n C dX12_finds_11 rfl 0 rfl ?_
  refine rf_get C (v := .int (s4.1 148 4)) cfX12 flX12_185 (by decide) oX12 rfl dX12_finds_12 ?_
  refine rf_jn1 (fun _ => True) (fun  s6 => s6) (fun s6 => [(0, .ref ((gE Γ).2.1 148)), (1, .int v3)]) (fun s6 => []) 163 (fun s6 _ => ?_) (fun j7 hj7 => ?_)
  · refine rf_aload_n C dX12_finds_163 rfl 0 rfl ?_
    refine rf_iload_n C dX12_finds_164 rfl 1 rfl ?_
    refine rf_jn2 (fun _ _ => True) (fun _ s9 => s9) (fun v8 s9 => []) (fun v8 s9 => [.int v8, .ref ((gE Γ).2.1 148)]) 173 (fun v8 s9 _ => ?_) (fun j10 hj10 => ?_)
    · refine rf_puti C cfX12 flX12_195 (by decide) rfl oX12 (fty := .int) rfl rfl rfl (fun _ _ _ _ => Nat.le_of_ble_eq_true rfl) (fun _ _ _ _ => rfl) dX12_finds_173 (fun s11 => ?_)
      exact rf_vret C dX12_finds_176
    refine rf_if_eq C 172 dX12_finds_165 (by decide) (fun _ => ?_) (fun _ => ?_)
    · refine rf_iconst C (v := (nI 5)) dX12_finds_172 rfl ?_
      exact rf_sub [] rfl (hj10 (nI 5) s6 trivial)
    refine rf_iconst C (v := (nI 0)) dX12_finds_168 rfl ?_
    refine rf_goto C 173 dX12_finds_169 (by decide) ?_
    exact rf_sub [] rfl (hj10 (nI 0) s6 trivial)
  refine rf_icmp_ge C 163 dX12_finds_15 (by decide) (fun _ => ?_) (fun _ => ?_)
  · exact rf_sub [0, 1] rfl (hj7 s4 trivial)
  refine rf_iload_n C dX12_finds_18 rfl 1 rfl ?_
  refine rf_if_eq C 163 dX12_finds_19 (by decide) (fun _ => ?_) (fun _ => ?_)
  · exact rf_sub [0, 1] rfl (hj7 s4 trivial)
  refine rf_aload_n C dX12_finds_22 rfl 0 rfl ?_
  refine rf_get C (v := .int (s4.1 148 21)) cfX12 flX12_188 (by decide) oX12 rfl dX12_finds_23 ?_
  refine rf_iconst C (v := (nI 1)) dX12_finds_26 rfl ?_
  refine rf_iadd C dX12_finds_27 ?_
  refine rf_aload_n C dX12_finds_28 rfl 0 rfl ?_
  refine rf_get C (v := .int (s4.1 148 4)) cfX12 flX12_185 (by decide) oX12 rfl dX12_finds_29 ?_
  refine rf_jn2 (fun _ _ => True) (fun _ s13 => s13) (fun v12 s13 => [(0, .ref ((gE Γ).2.1 148))]) (fun v12 s13 => [.int v12]) 56 (fun v12 s13 _ => ?_) (fun j14 hj14 => ?_)
  · refine rf_istore_n C (fun v15 => [(2, .int v15), (0, .ref ((gE Γ).2.1 148))]) dX12_finds_56 rfl (by decide) (fun _ => rfl) (fun v15 => ?_)
    refine rf_aload_n C dX12_finds_57 rfl 1 rfl ?_
    refine rf_bipush C (v := (nI 65)) dX12_finds_58 rfl ?_
    refine rf_bipush C (v := (nI 70)) dX12_finds_60 rfl ?_
    refine rf_callVi C (rmc := rmOf 1 22) [.int (nI 65), .int (nI 70)] (by decide) (mX12_isAt (gL Γ) (nI 65) (nI 70) s13) mfX12_isAt mvX12_isAt mlX12_191 rfl oX12 rfl rfl rfl (Nat.le_of_ble_eq_true rfl) ⟨Nat.le_of_ble_eq_true rfl, Nat.le_of_ble_eq_true rfl⟩ dX12_finds_62 (fun r17 s16 => ?_)
    refine rf_jn2 (fun _ _ => True) (fun _ s19 => s19) (fun v18 s19 => [(0, .ref ((gE Γ).2.1 148))]) (fun v18 s19 => [.int v18]) 77 (fun v18 s19 _ => ?_) (fun j20 hj20 => ?_)
    · refine rf_istore_n C (fun v21 => [(3, .int v21), (0, .ref ((gE Γ).2.1 148))]) dX12_finds_77 rfl (by decide) (fun _ => rfl) (fun v21 => ?_)
      refine rf_iconst C (v := (nI 0)) dX12_finds_78 rfl ?_
      refine rf_istore C (fun v22 => [(4, .int v22), (3, .int v21), (0, .ref ((gE Γ).2.1 148))]) dX12_finds_79 (by decide) (fun _ => rfl) (fun v22 => ?_)
      refine rf_sub [2, 1, 0] rfl ?_
      refine rf_loo3 (fun _ _ _ => True) (fun _ _ s25 => s25) (fun v23 v24 s25 => [(0, .ref ((gE Γ).2.1 148)), (3, .int v23), (4, .int v24)]) (fun recrec26 hrec26 v23 v24 s25 _ => ?_) n v21 v22 s19 trivial
      refine rf_iload C dX12_finds_81 2 rfl ?_
      refine rf_aload_n C dX12_finds_83 rfl 0 rfl ?_
      refine rf_get C (v := .ref ((gE Γ).2.1 165)) cfX12 flX12_63 (by decide) oX12 rfl dX12_finds_84 ?_
      refine rf_iconst C (v := (nI 0)) dX12_finds_87 rfl ?_
      refine rf_iald C ar165 dX12_finds_88 (fun v27 => ?_)
      refine rf_icmp_ge C 132 dX12_finds_89 (by decide) (fun _ => ?_) (fun _ => ?_)
      · refine rf_iload_n C dX12_finds_132 rfl 1 rfl ?_
        refine rf_jn2 (fun _ _ => True) (fun _ s29 => s29) (fun v28 s29 => [(0, .ref ((gE Γ).2.1 148))]) (fun v28 s29 => [.int v28]) 141 (fun v28 s29 _ => ?_) (fun j30 hj30 => ?_)
        · refine rf_istore_n C (fun v31 => [(1, .int v31), (0, .ref ((gE Γ).2.1 148))]) dX12_finds_141 rfl (by decide) (fun _ => rfl) (fun v31 => ?_)
          refine rf_aload_n C dX12_finds_142 rfl 1 rfl ?_
          refine rf_dup C dX12_finds_143 rfl ?_
          refine rf_get C (v := .int (s29.1 148 21)) cfX12 flX12_188 (by decide) oX12 rfl dX12_finds_144 ?_
          refine rf_iload_n C dX12_finds_147 rfl 0 rfl ?_
          refine rf_jn2 (fun _ _ => True) (fun _ s33 => s33) (fun v32 s33 => [(0, .ref ((gE Γ).2.1 148)), (1, .int v31)]) (fun v32 s33 => [.int v32, .int (s29.1 148 21), .ref ((gE Γ).2.1 148)]) 156 (fun v32 s33 _ => ?_) (fun j34 hj34 => ?_)
          · refine rf_iadd C dX12_finds_156 ?_
            refine rf_puti C cfX12 flX12_188 (by decide) rfl oX12 (fty := .int) rfl rfl rfl (fun _ _ _ _ => Nat.le_of_ble_eq_true rfl) (fun _ _ _ _ => rfl) dX12_finds_157 (fun s35 => ?_)
            refine rf_goto C 7 dX12_finds_160 (by decide) ?_
            exact rf_sub [0, 1] rfl (hrec5 v31 s35 trivial)
          refine rf_if_eq C 155 dX12_finds_148 (by decide) (fun _ => ?_) (fun _ => ?_)
          · refine rf_iconst C (v := (nI 0)) dX12_finds_155 rfl ?_
            exact rf_sub [1, 0] rfl (hj34 (nI 0) s29 trivial)
          refine rf_iconst C (v := (nI 1)) dX12_finds_151 rfl ?_
          refine rf_goto C 156 dX12_finds_152 (by decide) ?_
          exact rf_sub [1, 0] rfl (hj34 (nI 1) s29 trivial)
        refine rf_if_ne C 140 dX12_finds_133 (by decide) (fun _ => ?_) (fun _ => ?_)
        · refine rf_iconst C (v := (nI 0)) dX12_finds_140 rfl ?_
          exact rf_sub [0] rfl (hj30 (nI 0) s25 trivial)
        refine rf_iconst C (v := (nI 1)) dX12_finds_136 rfl ?_
        refine rf_goto C 141 dX12_finds_137 (by decide) ?_
        exact rf_sub [0] rfl (hj30 (nI 1) s25 trivial)
      refine rf_iload_n C dX12_finds_92 rfl 1 rfl ?_
      refine rf_jn2 (fun _ _ => True) (fun _ s37 => s37) (fun v36 s37 => [(0, .ref ((gE Γ).2.1 148)), (4, .int v24)]) (fun v36 s37 => [.int v36]) 125 (fun v36 s37 _ => ?_) (fun j38 hj38 => ?_)
      · refine rf_istore_n C (fun v39 => [(3, .int v39), (0, .ref ((gE Γ).2.1 148)), (4, .int v24)]) dX12_finds_125 rfl (by decide) (fun _ => rfl) (fun v39 => ?_)
        refine rf_iinc C (fun v40 => [(4, .int v40), (3, .int v39), (0, .ref ((gE Γ).2.1 148))]) dX12_finds_126 2 rfl rfl (by decide) (fun _ => rfl) (fun v40 => ?_)
        refine rf_goto C 81 dX12_finds_129 (by decide) ?_
        exact rf_sub [2, 1, 0] rfl (hrec26 v39 v40 s37 trivial)
      refine rf_jn1 (fun _ => True) (fun  s41 => s41) (fun s41 => [(0, .ref ((gE Γ).2.1 148)), (4, .int v24)]) (fun s41 => []) 124 (fun s41 _ => ?_) (fun j42 hj42 => ?_)
      · refine rf_iconst C (v := (nI 0)) dX12_finds_124 rfl ?_
        exact rf_sub [0, 1] rfl (hj38 (nI 0) s41 trivial)
      refine rf_if_eq C 124 dX12_finds_93 (by decide) (fun _ => ?_) (fun _ => ?_)
      · exact rf_sub [0, 2] rfl (hj42 s25 trivial)
      refine rf_aload_n C dX12_finds_96 rfl 0 rfl ?_
      refine rf_get C (v := .ref ((gE Γ).2.1 165)) cfX12 flX12_63 (by decide) oX12 rfl dX12_finds_97 ?_
      refine rf_iconst C (v := (nI 1)) dX12_finds_100 rfl ?_
      refine rf_iload C dX12_finds_101 2 rfl ?_
      refine rf_iadd C dX12_finds_103 ?_
      refine rf_iald C ar165 dX12_finds_104 (fun v43 => ?_)
      refine rf_aload_n C dX12_finds_105 rfl 0 rfl ?_
      refine rf_get C (v := .ref ((gE Γ).2.1 151)) cfX12 flX12_16 (by decide) oX12 rfl dX12_finds_106 ?_
      refine rf_aload_n C dX12_finds_109 rfl 0 rfl ?_
      refine rf_get C (v := .int (s25.1 148 21)) cfX12 flX12_188 (by decide) oX12 rfl dX12_finds_110 ?_
      refine rf_iald C ar151 dX12_finds_113 (fun v44 => ?_)
      refine rf_bipush C (v := (nI 65)) dX12_finds_114 rfl ?_
      refine rf_isub C dX12_finds_116 ?_
      refine rf_icmp_eq C 124 dX12_finds_117 (by decide) (fun _ => ?_) (fun _ => ?_)
      · exact rf_sub [0, 2] rfl (hj42 s25 trivial)
      refine rf_iconst C (v := (nI 1)) dX12_finds_120 rfl ?_
      refine rf_goto C 125 dX12_finds_121 (by decide) ?_
      exact rf_sub [0, 2] rfl (hj38 (nI 1) s25 trivial)
    refine rf_jn1 (fun _ => True) (fun  s45 => s45) (fun s45 => [(0, .ref ((gE Γ).2.1 148))]) (fun s45 => []) 76 (fun s45 _ => ?_) (fun j46 hj46 => ?_)
    · refine rf_iconst C (v := (nI 0)) dX12_finds_76 rfl ?_
      exact rf_sub [0] rfl (hj20 (nI 0) s45 trivial)
    refine rf_if_eq C 76 dX12_finds_65 (by decide) (fun _ => ?_) (fun _ => ?_)
    · exact rf_sub [1] rfl (hj46 s16 trivial)
    refine rf_iload_n C dX12_finds_68 rfl 0 rfl ?_
    refine rf_if_ne C 76 dX12_finds_69 (by decide) (fun _ => ?_) (fun _ => ?_)
    · exact rf_sub [1] rfl (hj46 s16 trivial)
    refine rf_iconst C (v := (nI 1)) dX12_finds_72 rfl ?_
    refine rf_goto C 77 dX12_finds_73 (by decide) ?_
    exact rf_sub [1] rfl (hj20 (nI 1) s16 trivial)
  refine rf_jn1 (fun _ => True) (fun  s47 => s47) (fun s47 => [(0, .ref ((gE Γ).2.1 148))]) (fun s47 => []) 55 (fun s47 _ => ?_) (fun j48 hj48 => ?_)
  · refine rf_iconst C (v := (nI 0)) dX12_finds_55 rfl ?_
    exact rf_sub [0] rfl (hj14 (nI 0) s47 trivial)
  refine rf_icmp_ge C 55 dX12_finds_32 (by decide) (fun _ => ?_) (fun _ => ?_)
  · exact rf_sub [0] rfl (hj48 s4 trivial)
  refine rf_aload_n C dX12_finds_35 rfl 0 rfl ?_
  refine rf_get C (v := .ref ((gE Γ).2.1 151)) cfX12 flX12_16 (by decide) oX12 rfl dX12_finds_36 ?_
  refine rf_aload_n C dX12_finds_39 rfl 0 rfl ?_
  refine rf_get C (v := .int (s4.1 148 21)) cfX12 flX12_188 (by decide) oX12 rfl dX12_finds_40 ?_
  refine rf_iconst C (v := (nI 1)) dX12_finds_43 rfl ?_
  refine rf_iadd C dX12_finds_44 ?_
  refine rf_iald C ar151 dX12_finds_45 (fun v49 => ?_)
  refine rf_bipush C (v := (nI 61)) dX12_finds_46 rfl ?_
  refine rf_icmp_ne C 55 dX12_finds_48 (by decide) (fun _ => ?_) (fun _ => ?_)
  · exact rf_sub [0] rfl (hj48 s4 trivial)
  refine rf_iconst C (v := (nI 1)) dX12_finds_51 rfl ?_
  refine rf_goto C 56 dX12_finds_52 (by decide) ?_
  exact rf_sub [0] rfl (hj14 (nI 1) s4 trivial)

def fX12_load (n : Nat) (s0 : PH) : Option (Int32 × PH) :=
(lt (si s0 148 21 (nI 0)) fun (s1 : PH) =>
(lt (si s1 148 22 (nI 0)) fun (s2 : PH) =>
(lt (nI 0) fun (v3 : Int32) =>
(loo2 (fun (recrec6 : Int32 → PH → Option (Int32 × PH)) (v4 : Int32) (s5 : PH) =>
(if (nI 113) ≤ v4 then
(bd (fX12_readsRule n s5) fun (r8 : Int32) (s7 : PH) =>
(lt r8 fun (v9 : Int32) =>
(loo2 (fun (recrec12 : Int32 → PH → Option (Int32 × PH)) (v10 : Int32) (s11 : PH) =>
(jn (fun (s13 : PH) =>
(jn (fun (s15 : PH) =>
(jn (fun (v17 : Int32) (s18 : PH) =>
(lt (si s18 148 5 v17) fun (s20 : PH) =>
(if (s20.1 148 22) ≤ 0 then
(jn (fun (s21 : PH) =>
(lt (nI 0) fun (v23 : Int32) =>
(loo2 (fun (recrec26 : Int32 → PH → Option (Int32 × PH)) (v24 : Int32) (s25 : PH) =>
(if (nI 113) ≤ v24 then
(lt (si s25 148 2 ((s25.1 148 2) + (nI 1))) fun (s27 : PH) =>
(bd (fX12_lays n s27) fun _ (s28 : PH) =>
(bd (fX12_many s28) fun (r30 : Int32) (s29 : PH) =>
(some (r30, s29)))))
else
(ra 113 v24 (s25.1 149) fun (v31 : Int32) =>
(wa 452 (((nI 113) * (s25.1 148 2)) + v24) (lt (si s25 150 (((nI 113) * (s25.1 148 2)) + v24).toNatClampNeg v31) fun (s32 : PH) =>
(ra 113 v24 (s32.1 165) fun (v33 : Int32) =>
(wa 113 v24 (lt (si s32 149 v24.toNatClampNeg v33) fun (s34 : PH) =>
(lt (v24 + (nI 1)) fun (v35 : Int32) =>
(recrec26 v35 s34)))))))))) n v23 s21))) (fun (j22 : PH → Option (Int32 × PH)) =>
(if (s20.1 148 2) = (nI 4) then
(lt (nI 0) fun (v36 : Int32) =>
(loo2 (fun (recrec39 : Int32 → PH → Option (Int32 × PH)) (v37 : Int32) (s38 : PH) =>
(if (nI 339) ≤ v37 then
(lt (si s38 148 2 ((s38.1 148 2) - (nI 1))) fun (s40 : PH) =>
(j22 s40))
else
(ra 452 (v37 + (nI 113)) (s38.1 150) fun (v41 : Int32) =>
(wa 452 v37 (lt (si s38 150 v37.toNatClampNeg v41) fun (s42 : PH) =>
(lt (v37 + (nI 1)) fun (v43 : Int32) =>
(recrec39 v43 s42))))))) n v36 s20))
else
(j22 s20))))
else
(some (((-10 : Int32) - (s20.1 148 21)), s20))))) (fun (j19 : Int32 → PH → Option (Int32 × PH)) =>
(if (s15.1 148 22) = 0 then
(j19 (-9 : Int32) s15)
else
(j19 (s15.1 148 22) s15))))) (fun (j16 : PH → Option (Int32 × PH)) =>
(if v10 = 0 then
(j16 s13)
else
(bd (fX12_finds n s13) fun _ (s44 : PH) =>
(j16 s44)))))) (fun (j14 : PH → Option (Int32 × PH)) =>
(if v10 = 0 then
(j14 s11)
else
(if (s11.1 148 4) ≤ (s11.1 148 21) then
(j14 s11)
else
(bd (fX12_readsRule n s11) fun (r46 : Int32) (s45 : PH) =>
(lt r46 fun (v47 : Int32) =>
(recrec12 v47 s45)))))))) n v9 s7)))
else
(wa 113 v4 (lt (si s5 165 v4.toNatClampNeg (nI 0)) fun (s48 : PH) =>
(lt (v4 + (nI 1)) fun (v49 : Int32) =>
(recrec6 v49 s48)))))) n v3 s2))))
set_option maxRecDepth 20000 in
set_option maxHeartbeats 2000000 in
theorem mX12_load (l : Launch) (n : Nat) (s0 : PH) : Cti 174 l yX12_load cX12_load 3 (some .int) (rmOf 7 156) (fun E => [.ref (E.2.1 148)]) s0 (fX12_load n s0) := by
  refine Cti.of (by decide) rfl (lv := fun E => [(0, .ref (E.2.1 148))]) (fun _ => Nat.le_of_ble_eq_true rfl) (fun _ => rfl) (fun Γ hΓ _ C => ?_)
  subst hΓ
  unfold fX12_load
  refine rf_aload_n C dX12_load_0 rfl 0 rfl ?_
  refine rf_iconst C (v := (nI 0)) dX12_load_1 rfl ?_
  refine rf_puti C cfX12 flX12_188 (by decide) rfl oX12 (fty := .int) rfl rfl rfl (fun _ _ _ _ => Nat.le_of_ble_eq_true rfl) (fun _ _ _ _ => rfl) dX12_load_2 (fun s1 => ?_)
  refine rf_aload_n C dX12_load_5 rfl 0 rfl ?_
  refine rf_iconst C (v := (nI 0)) dX12_load_6 rfl ?_
  refine rf_puti C cfX12 flX12_195 (by decide) rfl oX12 (fty := .int) rfl rfl rfl (fun _ _ _ _ => Nat.le_of_ble_eq_true rfl) (fun _ _ _ _ => rfl) dX12_load_7 (fun s2 => ?_)
  refine rf_iconst C (v := (nI 0)) dX12_load_10 rfl ?_
  refine rf_istore_n C (fun v3 => [(1, .int v3), (0, .ref ((gE Γ).2.1 148))]) dX12_load_11 rfl (by decide) (fun _ => rfl) (fun v3 => ?_)
  refine rf_sub [1, 0] rfl ?_
  refine rf_loo2 (fun _ _ => True) (fun _ s5 => s5) (fun v4 s5 => [(0, .ref ((gE Γ).2.1 148)), (1, .int v4)]) (fun recrec6 hrec6 v4 s5 _ => ?_) n v3 s2 trivial
  refine rf_iload_n C dX12_load_12 rfl 1 rfl ?_
  refine rf_bipush C (v := (nI 113)) dX12_load_13 rfl ?_
  refine rf_icmp_ge C 31 dX12_load_15 (by decide) (fun _ => ?_) (fun _ => ?_)
  · refine rf_aload_n C dX12_load_31 rfl 0 rfl ?_
    refine rf_callVi C (rmc := rmOf 3 66) [] (by decide) (mX12_readsRule (gL Γ) n s5) mfX12_readsRule mvX12_readsRule mlX12_204 rfl oX12 rfl rfl rfl (Nat.le_of_ble_eq_true rfl) ⟨Nat.le_of_ble_eq_true rfl, Nat.le_of_ble_eq_true rfl⟩ dX12_load_32 (fun r8 s7 => ?_)
    refine rf_istore_n C (fun v9 => [(1, .int v9), (0, .ref ((gE Γ).2.1 148))]) dX12_load_35 rfl (by decide) (fun _ => rfl) (fun v9 => ?_)
    refine rf_sub [1, 0] rfl ?_
    refine rf_loo2 (fun _ _ => True) (fun _ s11 => s11) (fun v10 s11 => [(0, .ref ((gE Γ).2.1 148)), (1, .int v10)]) (fun recrec12 hrec12 v10 s11 _ => ?_) n v9 s7 trivial
    refine rf_iload_n C dX12_load_36 rfl 1 rfl ?_
    refine rf_jn1 (fun _ => True) (fun  s13 => s13) (fun s13 => [(0, .ref ((gE Γ).2.1 148)), (1, .int v10)]) (fun s13 => []) 59 (fun s13 _ => ?_) (fun j14 hj14 => ?_)
    · refine rf_iload_n C dX12_load_59 rfl 1 rfl ?_
      refine rf_jn1 (fun _ => True) (fun  s15 => s15) (fun s15 => [(0, .ref ((gE Γ).2.1 148))]) (fun s15 => []) 67 (fun s15 _ => ?_) (fun j16 hj16 => ?_)
      · refine rf_aload_n C dX12_load_67 rfl 0 rfl ?_
        refine rf_aload_n C dX12_load_68 rfl 0 rfl ?_
        refine rf_get C (v := .int (s15.1 148 22)) cfX12 flX12_195 (by decide) oX12 rfl dX12_load_69 ?_
        refine rf_jn2 (fun _ _ => True) (fun _ s18 => s18) (fun v17 s18 => [(0, .ref ((gE Γ).2.1 148))]) (fun v17 s18 => [.int v17, .ref ((gE Γ).2.1 148)]) 84 (fun v17 s18 _ => ?_) (fun j19 hj19 => ?_)
        · refine rf_puti C cfX12 flX12_19 (by decide) rfl oX12 (fty := .int) rfl rfl rfl (fun _ _ _ _ => Nat.le_of_ble_eq_true rfl) (fun _ _ _ _ => rfl) dX12_load_84 (fun s20 => ?_)
          refine rf_aload_n C dX12_load_87 rfl 0 rfl ?_
          refine rf_get C (v := .int (s20.1 148 22)) cfX12 flX12_195 (by decide) oX12 rfl dX12_load_88 ?_
          refine rf_if_le C 102 dX12_load_91 (by decide) (fun _ => ?_) (fun _ => ?_)
          · refine rf_aload_n C dX12_load_102 rfl 0 rfl ?_
            refine rf_get C (v := .int (s20.1 148 2)) cfX12 flX12_211 (by decide) oX12 rfl dX12_load_103 ?_
            refine rf_iconst C (v := (nI 4)) dX12_load_106 rfl ?_
            refine rf_jn1 (fun _ => True) (fun  s21 => s21) (fun s21 => [(0, .ref ((gE Γ).2.1 148))]) (fun s21 => []) 150 (fun s21 _ => ?_) (fun j22 hj22 => ?_)
            · refine rf_iconst C (v := (nI 0)) dX12_load_150 rfl ?_
              refine rf_istore_n C (fun v23 => [(2, .int v23), (0, .ref ((gE Γ).2.1 148))]) dX12_load_151 rfl (by decide) (fun _ => rfl) (fun v23 => ?_)
              refine rf_sub [1, 0] rfl ?_
              refine rf_loo2 (fun _ _ => True) (fun _ s25 => s25) (fun v24 s25 => [(0, .ref ((gE Γ).2.1 148)), (2, .int v24)]) (fun recrec26 hrec26 v24 s25 _ => ?_) n v23 s21 trivial
              refine rf_iload_n C dX12_load_152 rfl 1 rfl ?_
              refine rf_bipush C (v := (nI 113)) dX12_load_153 rfl ?_
              refine rf_icmp_ge C 196 dX12_load_155 (by decide) (fun _ => ?_) (fun _ => ?_)
              · refine rf_aload_n C dX12_load_196 rfl 0 rfl ?_
                refine rf_dup C dX12_load_197 rfl ?_
                refine rf_get C (v := .int (s25.1 148 2)) cfX12 flX12_211 (by decide) oX12 rfl dX12_load_198 ?_
                refine rf_iconst C (v := (nI 1)) dX12_load_201 rfl ?_
                refine rf_iadd C dX12_load_202 ?_
                refine rf_puti C cfX12 flX12_211 (by decide) rfl oX12 (fty := .int) rfl rfl rfl (fun _ _ _ _ => Nat.le_of_ble_eq_true rfl) (fun _ _ _ _ => rfl) dX12_load_203 (fun s27 => ?_)
                refine rf_aload_n C dX12_load_206 rfl 0 rfl ?_
                refine rf_callVv C (rmc := rmOf 6 136) [] (by decide) (mX12_lays (gL Γ) n s27) mfX12_lays mvX12_lays mlX12_91 rfl oX12 rfl rfl rfl (Nat.le_of_ble_eq_true rfl) ⟨Nat.le_of_ble_eq_true rfl, Nat.le_of_ble_eq_true rfl⟩ dX12_load_207 (fun s28 => ?_)
                refine rf_aload_n C dX12_load_210 rfl 0 rfl ?_
                refine rf_callVi C (rmc := rmOf 0 0) [] (by decide) (mX12_many (gL Γ) s28) mfX12_many mvX12_many mlX12_94 rfl oX12 rfl rfl rfl (Nat.le_of_ble_eq_true rfl) ⟨Nat.le_of_ble_eq_true rfl, Nat.le_of_ble_eq_true rfl⟩ dX12_load_211 (fun r30 s29 => ?_)
                exact rf_iret C dX12_load_214
              refine rf_aload_n C dX12_load_158 rfl 0 rfl ?_
              refine rf_get C (v := .ref ((gE Γ).2.1 150)) cfX12 flX12_13 (by decide) oX12 rfl dX12_load_159 ?_
              refine rf_bipush C (v := (nI 113)) dX12_load_162 rfl ?_
              refine rf_aload_n C dX12_load_164 rfl 0 rfl ?_
              refine rf_get C (v := .int (s25.1 148 2)) cfX12 flX12_211 (by decide) oX12 rfl dX12_load_165 ?_
              refine rf_imul C dX12_load_168 ?_
              refine rf_iload_n C dX12_load_169 rfl 1 rfl ?_
              refine rf_iadd C dX12_load_170 ?_
              refine rf_aload_n C dX12_load_171 rfl 0 rfl ?_
              refine rf_get C (v := .ref ((gE Γ).2.1 149)) cfX12 flX12_7 (by decide) oX12 rfl dX12_load_172 ?_
              refine rf_iload_n C dX12_load_175 rfl 1 rfl ?_
              refine rf_iald C ar149 dX12_load_176 (fun v31 => ?_)
              refine rf_iast C ar150 dX12_load_177 (fun s32 => ?_)
              refine rf_aload_n C dX12_load_178 rfl 0 rfl ?_
              refine rf_get C (v := .ref ((gE Γ).2.1 149)) cfX12 flX12_7 (by decide) oX12 rfl dX12_load_179 ?_
              refine rf_iload_n C dX12_load_182 rfl 1 rfl ?_
              refine rf_aload_n C dX12_load_183 rfl 0 rfl ?_
              refine rf_get C (v := .ref ((gE Γ).2.1 165)) cfX12 flX12_63 (by decide) oX12 rfl dX12_load_184 ?_
              refine rf_iload_n C dX12_load_187 rfl 1 rfl ?_
              refine rf_iald C ar165 dX12_load_188 (fun v33 => ?_)
              refine rf_iast C ar149 dX12_load_189 (fun s34 => ?_)
              refine rf_iinc C (fun v35 => [(2, .int v35), (0, .ref ((gE Γ).2.1 148))]) dX12_load_190 1 rfl rfl (by decide) (fun _ => rfl) (fun v35 => ?_)
              refine rf_goto C 152 dX12_load_193 (by decide) ?_
              exact rf_sub [1, 0] rfl (hrec26 v35 s34 trivial)
            refine rf_icmp_ne C 150 dX12_load_107 (by decide) (fun _ => ?_) (fun _ => ?_)
            · exact rf_sub [0] rfl (hj22 s20 trivial)
            refine rf_iconst C (v := (nI 0)) dX12_load_110 rfl ?_
            refine rf_istore_n C (fun v36 => [(2, .int v36), (0, .ref ((gE Γ).2.1 148))]) dX12_load_111 rfl (by decide) (fun _ => rfl) (fun v36 => ?_)
            refine rf_sub [1, 0] rfl ?_
            refine rf_loo2 (fun _ _ => True) (fun _ s38 => s38) (fun v37 s38 => [(0, .ref ((gE Γ).2.1 148)), (2, .int v37)]) (fun recrec39 hrec39 v37 s38 _ => ?_) n v36 s20 trivial
            refine rf_iload_n C dX12_load_112 rfl 1 rfl ?_
            refine rf_sipush C (v := (nI 339)) dX12_load_113 rfl ?_
            refine rf_icmp_ge C 140 dX12_load_116 (by decide) (fun _ => ?_) (fun _ => ?_)
            · refine rf_aload_n C dX12_load_140 rfl 0 rfl ?_
              refine rf_dup C dX12_load_141 rfl ?_
              refine rf_get C (v := .int (s38.1 148 2)) cfX12 flX12_211 (by decide) oX12 rfl dX12_load_142 ?_
              refine rf_iconst C (v := (nI 1)) dX12_load_145 rfl ?_
              refine rf_isub C dX12_load_146 ?_
              refine rf_puti C cfX12 flX12_211 (by decide) rfl oX12 (fty := .int) rfl rfl rfl (fun _ _ _ _ => Nat.le_of_ble_eq_true rfl) (fun _ _ _ _ => rfl) dX12_load_147 (fun s40 => ?_)
              exact rf_sub [0] rfl (hj22 s40 trivial)
            refine rf_aload_n C dX12_load_119 rfl 0 rfl ?_
            refine rf_get C (v := .ref ((gE Γ).2.1 150)) cfX12 flX12_13 (by decide) oX12 rfl dX12_load_120 ?_
            refine rf_iload_n C dX12_load_123 rfl 1 rfl ?_
            refine rf_aload_n C dX12_load_124 rfl 0 rfl ?_
            refine rf_get C (v := .ref ((gE Γ).2.1 150)) cfX12 flX12_13 (by decide) oX12 rfl dX12_load_125 ?_
            refine rf_iload_n C dX12_load_128 rfl 1 rfl ?_
            refine rf_bipush C (v := (nI 113)) dX12_load_129 rfl ?_
            refine rf_iadd C dX12_load_131 ?_
            refine rf_iald C ar150 dX12_load_132 (fun v41 => ?_)
            refine rf_iast C ar150 dX12_load_133 (fun s42 => ?_)
            refine rf_iinc C (fun v43 => [(2, .int v43), (0, .ref ((gE Γ).2.1 148))]) dX12_load_134 1 rfl rfl (by decide) (fun _ => rfl) (fun v43 => ?_)
            refine rf_goto C 112 dX12_load_137 (by decide) ?_
            exact rf_sub [1, 0] rfl (hrec39 v43 s42 trivial)
          refine rf_bipush C (v := (-10 : Int32)) dX12_load_94 rfl ?_
          refine rf_aload_n C dX12_load_96 rfl 0 rfl ?_
          refine rf_get C (v := .int (s20.1 148 21)) cfX12 flX12_188 (by decide) oX12 rfl dX12_load_97 ?_
          refine rf_isub C dX12_load_100 ?_
          exact rf_iret C dX12_load_101
        refine rf_if_ne C 80 dX12_load_72 (by decide) (fun _ => ?_) (fun _ => ?_)
        · refine rf_aload_n C dX12_load_80 rfl 0 rfl ?_
          refine rf_get C (v := .int (s15.1 148 22)) cfX12 flX12_195 (by decide) oX12 rfl dX12_load_81 ?_
          exact rf_sub [0] rfl (hj19 (s15.1 148 22) s15 trivial)
        refine rf_bipush C (v := (-9 : Int32)) dX12_load_75 rfl ?_
        refine rf_goto C 84 dX12_load_77 (by decide) ?_
        exact rf_sub [0] rfl (hj19 (-9 : Int32) s15 trivial)
      refine rf_if_eq C 67 dX12_load_60 (by decide) (fun _ => ?_) (fun _ => ?_)
      · exact rf_sub [0] rfl (hj16 s13 trivial)
      refine rf_aload_n C dX12_load_63 rfl 0 rfl ?_
      refine rf_callVv C (rmc := rmOf 2 44) [] (by decide) (mX12_finds (gL Γ) n s13) mfX12_finds mvX12_finds mlX12_208 rfl oX12 rfl rfl rfl (Nat.le_of_ble_eq_true rfl) ⟨Nat.le_of_ble_eq_true rfl, Nat.le_of_ble_eq_true rfl⟩ dX12_load_64 (fun s44 => ?_)
      exact rf_sub [0] rfl (hj16 s44 trivial)
    refine rf_if_eq C 59 dX12_load_37 (by decide) (fun _ => ?_) (fun _ => ?_)
    · exact rf_sub [0, 1] rfl (hj14 s11 trivial)
    refine rf_aload_n C dX12_load_40 rfl 0 rfl ?_
    refine rf_get C (v := .int (s11.1 148 21)) cfX12 flX12_188 (by decide) oX12 rfl dX12_load_41 ?_
    refine rf_aload_n C dX12_load_44 rfl 0 rfl ?_
    refine rf_get C (v := .int (s11.1 148 4)) cfX12 flX12_185 (by decide) oX12 rfl dX12_load_45 ?_
    refine rf_icmp_ge C 59 dX12_load_48 (by decide) (fun _ => ?_) (fun _ => ?_)
    · exact rf_sub [0, 1] rfl (hj14 s11 trivial)
    refine rf_aload_n C dX12_load_51 rfl 0 rfl ?_
    refine rf_callVi C (rmc := rmOf 3 66) [] (by decide) (mX12_readsRule (gL Γ) n s11) mfX12_readsRule mvX12_readsRule mlX12_204 rfl oX12 rfl rfl rfl (Nat.le_of_ble_eq_true rfl) ⟨Nat.le_of_ble_eq_true rfl, Nat.le_of_ble_eq_true rfl⟩ dX12_load_52 (fun r46 s45 => ?_)
    refine rf_istore_n C (fun v47 => [(1, .int v47), (0, .ref ((gE Γ).2.1 148))]) dX12_load_55 rfl (by decide) (fun _ => rfl) (fun v47 => ?_)
    refine rf_goto C 36 dX12_load_56 (by decide) ?_
    exact rf_sub [1, 0] rfl (hrec12 v47 s45 trivial)
  refine rf_aload_n C dX12_load_18 rfl 0 rfl ?_
  refine rf_get C (v := .ref ((gE Γ).2.1 165)) cfX12 flX12_63 (by decide) oX12 rfl dX12_load_19 ?_
  refine rf_iload_n C dX12_load_22 rfl 1 rfl ?_
  refine rf_iconst C (v := (nI 0)) dX12_load_23 rfl ?_
  refine rf_iast C ar165 dX12_load_24 (fun s48 => ?_)
  refine rf_iinc C (fun v49 => [(1, .int v49), (0, .ref ((gE Γ).2.1 148))]) dX12_load_25 1 rfl rfl (by decide) (fun _ => rfl) (fun v49 => ?_)
  refine rf_goto C 12 dX12_load_28 (by decide) ?_
  exact rf_sub [1, 0] rfl (hrec6 v49 s48 trivial)

def fX12_fault (s0 : PH) : Option (Int32 × PH) :=
(some ((s0.1 148 5), s0))
set_option maxRecDepth 20000 in
set_option maxHeartbeats 2000000 in
theorem mX12_fault (l : Launch) (s0 : PH) : Cti 174 l yX12_fault cX12_fault 1 (some .int) (rmOf 0 0) (fun E => [.ref (E.2.1 148)]) s0 (fX12_fault s0) := by
  refine Cti.of (by decide) rfl (lv := fun E => [(0, .ref (E.2.1 148))]) (fun _ => Nat.le_of_ble_eq_true rfl) (fun _ => rfl) (fun Γ hΓ _ C => ?_)
  subst hΓ
  unfold fX12_fault
  refine rf_aload_n C dX12_fault_0 rfl 0 rfl ?_
  refine rf_get C (v := .int (s0.1 148 5)) cfX12 flX12_19 (by decide) oX12 rfl dX12_fault_1 ?_
  exact rf_iret C dX12_fault_4

def fX12_isProduction (a1 : Int32) (s0 : PH) : Option (Int32 × PH) :=
(bd (fX12_many s0) fun (r2 : Int32) (s1 : PH) =>
(bd (fX12_in a1 (nI 0) (r2 - (nI 1)) s1) fun (r4 : Int32) (s3 : PH) =>
(rz r4 s3)))
set_option maxRecDepth 20000 in
set_option maxHeartbeats 2000000 in
theorem mX12_isProduction (l : Launch) (a1 : Int32) (s0 : PH) : Cti 174 l yX12_isProduction cX12_isProduction 2 (some .boolean) (rmOf 1 22) (fun E => [.ref (E.2.1 148), .int a1]) s0 (fX12_isProduction a1 s0) := by
  refine Cti.of (by decide) rfl (lv := fun E => [(0, .ref (E.2.1 148)), (1, .int a1)]) (fun _ => Nat.le_of_ble_eq_true rfl) (fun _ => rfl) (fun Γ hΓ _ C => ?_)
  subst hΓ
  unfold fX12_isProduction
  refine rf_iload_n C dX12_isProduction_0 rfl 1 rfl ?_
  refine rf_iconst C (v := (nI 0)) dX12_isProduction_1 rfl ?_
  refine rf_aload_n C dX12_isProduction_2 rfl 0 rfl ?_
  refine rf_callVi C (rmc := rmOf 0 0) [] (by decide) (mX12_many (gL Γ) s0) mfX12_many mvX12_many mlX12_94 rfl oX12 rfl rfl rfl (Nat.le_of_ble_eq_true rfl) ⟨Nat.le_of_ble_eq_true rfl, Nat.le_of_ble_eq_true rfl⟩ dX12_isProduction_3 (fun r2 s1 => ?_)
  refine rf_iconst C (v := (nI 1)) dX12_isProduction_6 rfl ?_
  refine rf_isub C dX12_isProduction_7 ?_
  refine rf_callSi C (rmc := rmOf 0 0) [.int a1, .int (nI 0), .int (r2 - (nI 1))] (by decide) (mX12_in (gL Γ) a1 (nI 0) (r2 - (nI 1)) s1) mfX12_in msX12_in mlX12_98 rfl rfl rfl (Nat.le_of_ble_eq_true rfl) ⟨Nat.le_of_ble_eq_true rfl, Nat.le_of_ble_eq_true rfl⟩ dX12_isProduction_8 (fun r4 s3 => ?_)
  exact rf_zretv C dX12_isProduction_11

def fX12_production (a1 : Int32) (a2 : Int32) (s0 : PH) : Option (Int32 × PH) :=
(bd (fX12_isProduction a1 s0) fun (r2 : Int32) (s1 : PH) =>
(jn (fun (s3 : PH) =>
(some ((-1 : Int32), s3))) (fun (j4 : PH → Option (Int32 × PH)) =>
(if r2 = 0 then
(j4 s1)
else
(bd (fX12_in a2 (nI 0) (nI 1) s1) fun (r6 : Int32) (s5 : PH) =>
(if r6 = 0 then
(j4 s5)
else
(if a2 = 0 then
(bd (fX12_left a1 s5) fun (r10 : Int32) (s9 : PH) =>
(some (r10, s9)))
else
(bd (fX12_size a1 s5) fun (r8 : Int32) (s7 : PH) =>
(some (r8, s7))))))))))
set_option maxRecDepth 20000 in
set_option maxHeartbeats 2000000 in
theorem mX12_production (l : Launch) (a1 : Int32) (a2 : Int32) (s0 : PH) : Cti 174 l yX12_production cX12_production 3 (some .int) (rmOf 2 43) (fun E => [.ref (E.2.1 148), .int a1, .int a2]) s0 (fX12_production a1 a2 s0) := by
  refine Cti.of (by decide) rfl (lv := fun E => [(0, .ref (E.2.1 148)), (1, .int a1), (2, .int a2)]) (fun _ => Nat.le_of_ble_eq_true rfl) (fun _ => rfl) (fun Γ hΓ _ C => ?_)
  subst hΓ
  unfold fX12_production
  refine rf_aload_n C dX12_production_0 rfl 0 rfl ?_
  refine rf_iload_n C dX12_production_1 rfl 1 rfl ?_
  refine rf_callVi C (rmc := rmOf 1 22) [.int a1] (by decide) (mX12_isProduction (gL Γ) a1 s0) mfX12_isProduction mvX12_isProduction mlX12_214 rfl oX12 rfl rfl rfl (Nat.le_of_ble_eq_true rfl) ⟨Nat.le_of_ble_eq_true rfl, Nat.le_of_ble_eq_true rfl⟩ dX12_production_2 (fun r2 s1 => ?_)
  refine rf_jn1 (fun _ => True) (fun  s3 => s3) (fun s3 => []) (fun s3 => []) 17 (fun s3 _ => ?_) (fun j4 hj4 => ?_)
  · refine rf_iconst C (v := (-1 : Int32)) dX12_production_17 rfl ?_
    refine rf_goto C 38 dX12_production_18 (by decide) ?_
    exact rf_iret C dX12_production_38
  refine rf_if_eq C 17 dX12_production_5 (by decide) (fun _ => ?_) (fun _ => ?_)
  · exact rf_sub [] rfl (hj4 s1 trivial)
  refine rf_iload_n C dX12_production_8 rfl 2 rfl ?_
  refine rf_iconst C (v := (nI 0)) dX12_production_9 rfl ?_
  refine rf_iconst C (v := (nI 1)) dX12_production_10 rfl ?_
  refine rf_callSi C (rmc := rmOf 0 0) [.int a2, .int (nI 0), .int (nI 1)] (by decide) (mX12_in (gL Γ) a2 (nI 0) (nI 1) s1) mfX12_in msX12_in mlX12_98 rfl rfl rfl (Nat.le_of_ble_eq_true rfl) ⟨Nat.le_of_ble_eq_true rfl, Nat.le_of_ble_eq_true rfl⟩ dX12_production_11 (fun r6 s5 => ?_)
  refine rf_if_ne C 21 dX12_production_14 (by decide) (fun _ => ?_) (fun _ => ?_)
  · refine rf_iload_n C dX12_production_21 rfl 2 rfl ?_
    refine rf_if_ne C 33 dX12_production_22 (by decide) (fun _ => ?_) (fun _ => ?_)
    · refine rf_aload_n C dX12_production_33 rfl 0 rfl ?_
      refine rf_iload_n C dX12_production_34 rfl 1 rfl ?_
      refine rf_callVi C (rmc := rmOf 0 0) [.int a1] (by decide) (mX12_size (gL Γ) a1 s5) mfX12_size mvX12_size mlX12_117 rfl oX12 rfl rfl rfl (Nat.le_of_ble_eq_true rfl) ⟨Nat.le_of_ble_eq_true rfl, Nat.le_of_ble_eq_true rfl⟩ dX12_production_35 (fun r8 s7 => ?_)
      exact rf_iret C dX12_production_38
    refine rf_aload_n C dX12_production_25 rfl 0 rfl ?_
    refine rf_iload_n C dX12_production_26 rfl 1 rfl ?_
    refine rf_callVi C (rmc := rmOf 0 0) [.int a1] (by decide) (mX12_left (gL Γ) a1 s5) mfX12_left mvX12_left mlX12_102 rfl oX12 rfl rfl rfl (Nat.le_of_ble_eq_true rfl) ⟨Nat.le_of_ble_eq_true rfl, Nat.le_of_ble_eq_true rfl⟩ dX12_production_27 (fun r10 s9 => ?_)
    refine rf_goto C 38 dX12_production_30 (by decide) ?_
    exact rf_iret C dX12_production_38
  exact rf_sub [] rfl (hj4 s5 trivial)

def fX12_symbol (a1 : Int32) (a2 : Int32) (s0 : PH) : Option (Int32 × PH) :=
(bd (fX12_isProduction a1 s0) fun (r2 : Int32) (s1 : PH) =>
(jn (fun (s3 : PH) =>
(some ((-1 : Int32), s3))) (fun (j4 : PH → Option (Int32 × PH)) =>
(if r2 = 0 then
(j4 s1)
else
(if 0 ≤ a2 then
(bd (fX12_size a1 s1) fun (r6 : Int32) (s5 : PH) =>
(if r6 ≤ a2 then
(some ((-9 : Int32), s5))
else
(bd (fX12_at a1 a2 s5) fun (r8 : Int32) (s7 : PH) =>
(some (r8, s7)))))
else
(j4 s1))))))
set_option maxRecDepth 20000 in
set_option maxHeartbeats 2000000 in
theorem mX12_symbol (l : Launch) (a1 : Int32) (a2 : Int32) (s0 : PH) : Cti 174 l yX12_symbol cX12_symbol 3 (some .int) (rmOf 2 43) (fun E => [.ref (E.2.1 148), .int a1, .int a2]) s0 (fX12_symbol a1 a2 s0) := by
  refine Cti.of (by decide) rfl (lv := fun E => [(0, .ref (E.2.1 148)), (1, .int a1), (2, .int a2)]) (fun _ => Nat.le_of_ble_eq_true rfl) (fun _ => rfl) (fun Γ hΓ _ C => ?_)
  subst hΓ
  unfold fX12_symbol
  refine rf_aload_n C dX12_symbol_0 rfl 0 rfl ?_
  refine rf_iload_n C dX12_symbol_1 rfl 1 rfl ?_
  refine rf_callVi C (rmc := rmOf 1 22) [.int a1] (by decide) (mX12_isProduction (gL Γ) a1 s0) mfX12_isProduction mvX12_isProduction mlX12_214 rfl oX12 rfl rfl rfl (Nat.le_of_ble_eq_true rfl) ⟨Nat.le_of_ble_eq_true rfl, Nat.le_of_ble_eq_true rfl⟩ dX12_symbol_2 (fun r2 s1 => ?_)
  refine rf_jn1 (fun _ => True) (fun  s3 => s3) (fun s3 => []) (fun s3 => []) 12 (fun s3 _ => ?_) (fun j4 hj4 => ?_)
  · refine rf_iconst C (v := (-1 : Int32)) dX12_symbol_12 rfl ?_
    refine rf_goto C 36 dX12_symbol_13 (by decide) ?_
    exact rf_iret C dX12_symbol_36
  refine rf_if_eq C 12 dX12_symbol_5 (by decide) (fun _ => ?_) (fun _ => ?_)
  · exact rf_sub [] rfl (hj4 s1 trivial)
  refine rf_iload_n C dX12_symbol_8 rfl 2 rfl ?_
  refine rf_if_ge C 16 dX12_symbol_9 (by decide) (fun _ => ?_) (fun _ => ?_)
  · refine rf_iload_n C dX12_symbol_16 rfl 2 rfl ?_
    refine rf_aload_n C dX12_symbol_17 rfl 0 rfl ?_
    refine rf_iload_n C dX12_symbol_18 rfl 1 rfl ?_
    refine rf_callVi C (rmc := rmOf 0 0) [.int a1] (by decide) (mX12_size (gL Γ) a1 s1) mfX12_size mvX12_size mlX12_117 rfl oX12 rfl rfl rfl (Nat.le_of_ble_eq_true rfl) ⟨Nat.le_of_ble_eq_true rfl, Nat.le_of_ble_eq_true rfl⟩ dX12_symbol_19 (fun r6 s5 => ?_)
    refine rf_icmp_ge C 34 dX12_symbol_22 (by decide) (fun _ => ?_) (fun _ => ?_)
    · refine rf_bipush C (v := (-9 : Int32)) dX12_symbol_34 rfl ?_
      exact rf_iret C dX12_symbol_36
    refine rf_aload_n C dX12_symbol_25 rfl 0 rfl ?_
    refine rf_iload_n C dX12_symbol_26 rfl 1 rfl ?_
    refine rf_iload_n C dX12_symbol_27 rfl 2 rfl ?_
    refine rf_callVi C (rmc := rmOf 0 0) [.int a1, .int a2] (by decide) (mX12_at (gL Γ) a1 a2 s5) mfX12_at mvX12_at mlX12_109 rfl oX12 rfl rfl rfl (Nat.le_of_ble_eq_true rfl) ⟨Nat.le_of_ble_eq_true rfl, Nat.le_of_ble_eq_true rfl⟩ dX12_symbol_28 (fun r8 s7 => ?_)
    refine rf_goto C 36 dX12_symbol_31 (by decide) ?_
    exact rf_iret C dX12_symbol_36
  exact rf_sub [] rfl (hj4 s1 trivial)

def fX12_productionsOf (n : Nat) (a1 : Int32) (s0 : PH) : Option (Int32 × PH) :=
(lt (nI 0) fun (v1 : Int32) =>
(lt (nI 0) fun (v2 : Int32) =>
(loo3 (fun (recrec6 : Int32 → Int32 → PH → Option (Int32 × PH)) (v3 : Int32) (v4 : Int32) (s5 : PH) =>
(bd (fX12_many s5) fun (r8 : Int32) (s7 : PH) =>
(if r8 ≤ v4 then
(some (v3, s7))
else
(bd (fX12_left v4 s7) fun (r10 : Int32) (s9 : PH) =>
(jn (fun (v11 : Int32) (s12 : PH) =>
(lt (v3 + v11) fun (v14 : Int32) =>
(lt (v4 + (nI 1)) fun (v15 : Int32) =>
(recrec6 v14 v15 s12)))) (fun (j13 : Int32 → PH → Option (Int32 × PH)) =>
(if r10 = a1 then
(j13 (nI 1) s9)
else
(j13 (nI 0) s9)))))))) n v1 v2 s0)))
set_option maxRecDepth 20000 in
set_option maxHeartbeats 2000000 in
theorem mX12_productionsOf (l : Launch) (n : Nat) (a1 : Int32) (s0 : PH) : Cti 174 l yX12_productionsOf cX12_productionsOf 4 (some .int) (rmOf 1 21) (fun E => [.ref (E.2.1 148), .int a1]) s0 (fX12_productionsOf n a1 s0) := by
  refine Cti.of (by decide) rfl (lv := fun E => [(0, .ref (E.2.1 148)), (1, .int a1)]) (fun _ => Nat.le_of_ble_eq_true rfl) (fun _ => rfl) (fun Γ hΓ _ C => ?_)
  subst hΓ
  unfold fX12_productionsOf
  refine rf_iconst C (v := (nI 0)) dX12_productionsOf_0 rfl ?_
  refine rf_istore_n C (fun v1 => [(2, .int v1), (0, .ref ((gE Γ).2.1 148)), (1, .int a1)]) dX12_productionsOf_1 rfl (by decide) (fun _ => rfl) (fun v1 => ?_)
  refine rf_iconst C (v := (nI 0)) dX12_productionsOf_2 rfl ?_
  refine rf_istore_n C (fun v2 => [(3, .int v2), (2, .int v1), (0, .ref ((gE Γ).2.1 148)), (1, .int a1)]) dX12_productionsOf_3 rfl (by decide) (fun _ => rfl) (fun v2 => ?_)
  refine rf_sub [2, 3, 1, 0] rfl ?_
  refine rf_loo3 (fun _ _ _ => True) (fun _ _ s5 => s5) (fun v3 v4 s5 => [(0, .ref ((gE Γ).2.1 148)), (1, .int a1), (2, .int v3), (3, .int v4)]) (fun recrec6 hrec6 v3 v4 s5 _ => ?_) n v1 v2 s0 trivial
  refine rf_iload_n C dX12_productionsOf_4 rfl 3 rfl ?_
  refine rf_aload_n C dX12_productionsOf_5 rfl 0 rfl ?_
  refine rf_callVi C (rmc := rmOf 0 0) [] (by decide) (mX12_many (gL Γ) s5) mfX12_many mvX12_many mlX12_94 rfl oX12 rfl rfl rfl (Nat.le_of_ble_eq_true rfl) ⟨Nat.le_of_ble_eq_true rfl, Nat.le_of_ble_eq_true rfl⟩ dX12_productionsOf_6 (fun r8 s7 => ?_)
  refine rf_icmp_ge C 35 dX12_productionsOf_9 (by decide) (fun _ => ?_) (fun _ => ?_)
  · refine rf_iload_n C dX12_productionsOf_35 rfl 2 rfl ?_
    exact rf_iret C dX12_productionsOf_36
  refine rf_iload_n C dX12_productionsOf_12 rfl 2 rfl ?_
  refine rf_aload_n C dX12_productionsOf_13 rfl 0 rfl ?_
  refine rf_iload_n C dX12_productionsOf_14 rfl 3 rfl ?_
  refine rf_callVi C (rmc := rmOf 0 0) [.int v4] (by decide) (mX12_left (gL Γ) v4 s7) mfX12_left mvX12_left mlX12_102 rfl oX12 rfl rfl rfl (Nat.le_of_ble_eq_true rfl) ⟨Nat.le_of_ble_eq_true rfl, Nat.le_of_ble_eq_true rfl⟩ dX12_productionsOf_15 (fun r10 s9 => ?_)
  refine rf_iload_n C dX12_productionsOf_18 rfl 1 rfl ?_
  refine rf_jn2 (fun _ _ => True) (fun _ s12 => s12) (fun v11 s12 => [(0, .ref ((gE Γ).2.1 148)), (1, .int a1), (3, .int v4)]) (fun v11 s12 => [.int v11, .int v3]) 27 (fun v11 s12 _ => ?_) (fun j13 hj13 => ?_)
  · refine rf_iadd C dX12_productionsOf_27 ?_
    refine rf_istore_n C (fun v14 => [(2, .int v14), (0, .ref ((gE Γ).2.1 148)), (1, .int a1), (3, .int v4)]) dX12_productionsOf_28 rfl (by decide) (fun _ => rfl) (fun v14 => ?_)
    refine rf_iinc C (fun v15 => [(3, .int v15), (2, .int v14), (0, .ref ((gE Γ).2.1 148)), (1, .int a1)]) dX12_productionsOf_29 3 rfl rfl (by decide) (fun _ => rfl) (fun v15 => ?_)
    refine rf_goto C 4 dX12_productionsOf_32 (by decide) ?_
    exact rf_sub [2, 3, 1, 0] rfl (hrec6 v14 v15 s12 trivial)
  refine rf_icmp_ne C 26 dX12_productionsOf_19 (by decide) (fun _ => ?_) (fun _ => ?_)
  · refine rf_iconst C (v := (nI 0)) dX12_productionsOf_26 rfl ?_
    exact rf_sub [0, 1, 3] rfl (hj13 (nI 0) s9 trivial)
  refine rf_iconst C (v := (nI 1)) dX12_productionsOf_22 rfl ?_
  refine rf_goto C 27 dX12_productionsOf_23 (by decide) ?_
  exact rf_sub [0, 1, 3] rfl (hj13 (nI 1) s9 trivial)

def fX12_isDefined (n : Nat) (a1 : Int32) (s0 : PH) : Option (Int32 × PH) :=
(bd (fX12_in a1 (nI 0) (nI 5) s0) fun (r2 : Int32) (s1 : PH) =>
(if r2 = 0 then
(some ((nI 0), s1))
else
(bd (fX12_productionsOf n a1 s1) fun (r4 : Int32) (s3 : PH) =>
(if r4 ≤ 0 then
(some ((nI 0), s3))
else
(some ((nI 1), s3))))))
set_option maxRecDepth 20000 in
set_option maxHeartbeats 2000000 in
theorem mX12_isDefined (l : Launch) (n : Nat) (a1 : Int32) (s0 : PH) : Cti 174 l yX12_isDefined cX12_isDefined 2 (some .boolean) (rmOf 2 44) (fun E => [.ref (E.2.1 148), .int a1]) s0 (fX12_isDefined n a1 s0) := by
  refine Cti.of (by decide) rfl (lv := fun E => [(0, .ref (E.2.1 148)), (1, .int a1)]) (fun _ => Nat.le_of_ble_eq_true rfl) (fun _ => rfl) (fun Γ hΓ _ C => ?_)
  subst hΓ
  unfold fX12_isDefined
  refine rf_iload_n C dX12_isDefined_0 rfl 1 rfl ?_
  refine rf_iconst C (v := (nI 0)) dX12_isDefined_1 rfl ?_
  refine rf_iconst C (v := (nI 5)) dX12_isDefined_2 rfl ?_
  refine rf_callSi C (rmc := rmOf 0 0) [.int a1, .int (nI 0), .int (nI 5)] (by decide) (mX12_in (gL Γ) a1 (nI 0) (nI 5) s0) mfX12_in msX12_in mlX12_98 rfl rfl rfl (Nat.le_of_ble_eq_true rfl) ⟨Nat.le_of_ble_eq_true rfl, Nat.le_of_ble_eq_true rfl⟩ dX12_isDefined_3 (fun r2 s1 => ?_)
  refine rf_if_eq C 21 dX12_isDefined_6 (by decide) (fun _ => ?_) (fun _ => ?_)
  · refine rf_iconst C (v := (nI 0)) dX12_isDefined_21 rfl ?_
    exact rf_zret C rfl dX12_isDefined_22
  refine rf_aload_n C dX12_isDefined_9 rfl 0 rfl ?_
  refine rf_iload_n C dX12_isDefined_10 rfl 1 rfl ?_
  refine rf_callVi C (rmc := rmOf 1 21) [.int a1] (by decide) (mX12_productionsOf (gL Γ) n a1 s1) mfX12_productionsOf mvX12_productionsOf mlX12_106 rfl oX12 rfl rfl rfl (Nat.le_of_ble_eq_true rfl) ⟨Nat.le_of_ble_eq_true rfl, Nat.le_of_ble_eq_true rfl⟩ dX12_isDefined_11 (fun r4 s3 => ?_)
  refine rf_if_le C 21 dX12_isDefined_14 (by decide) (fun _ => ?_) (fun _ => ?_)
  · refine rf_iconst C (v := (nI 0)) dX12_isDefined_21 rfl ?_
    exact rf_zret C rfl dX12_isDefined_22
  refine rf_iconst C (v := (nI 1)) dX12_isDefined_17 rfl ?_
  refine rf_goto C 22 dX12_isDefined_18 (by decide) ?_
  exact rf_zret C rfl dX12_isDefined_22

def fX12_tellName (n : Nat) (a1 : Int32) (a2 : Int32) (s0 : PH) : Option (Int32 × PH) :=
(if a2 = (nI 7) then
(ra 6 a1 (s0.1 154) fun (v30 : Int32) =>
(if v30 = (nI 1000000000) then
(some ((-9 : Int32), s0))
else
(ra 6 a1 (s0.1 154) fun (v31 : Int32) =>
(some (v31, s0)))))
else
(bd (fX12_isDefined n a1 s0) fun (r2 : Int32) (s1 : PH) =>
(if r2 = 0 then
(some ((nI 0), s1))
else
(jn (fun (v3 : Int32) (s4 : PH) =>
(lt v3 fun (v6 : Int32) =>
(jn (fun (v7 : Int32) (s8 : PH) =>
(if a2 = (nI 6) then
(bd (fX12_productionsOf n a1 s8) fun (r11 : Int32) (s10 : PH) =>
(some (r11, s10)))
else
(if v7 = 0 then
(some ((nI 0), s8))
else
(some ((nI 1), s8))))) (fun (j9 : Int32 → PH → Option (Int32 × PH)) =>
(if a2 = (nI 1) then
(ra 6 a1 (s4.1 153) fun (v13 : Int32) =>
(lt v13 fun (v14 : Int32) =>
(j9 v14 s4)))
else
(if a2 = (nI 2) then
(ra 6 a1 (s4.1 154) fun (v16 : Int32) =>
(jn (fun (v17 : Int32) (s18 : PH) =>
(lt v17 fun (v20 : Int32) =>
(j9 v20 s18))) (fun (j19 : Int32 → PH → Option (Int32 × PH)) =>
(if (nI 1000000000) ≤ v16 then
(j19 (nI 0) s4)
else
(j19 (nI 1) s4)))))
else
(if a2 = (nI 3) then
(ra 6 a1 (s4.1 155) fun (v22 : Int32) =>
(lt v22 fun (v23 : Int32) =>
(j9 v23 s4)))
else
(if a2 = (nI 4) then
(ra 36 (((nI 6) * a1) + a1) (s4.1 156) fun (v25 : Int32) =>
(lt v25 fun (v26 : Int32) =>
(j9 v26 s4)))
else
(if a2 = (nI 5) then
(ra 36 (((nI 6) * a1) + a1) (s4.1 157) fun (v28 : Int32) =>
(lt v28 fun (v29 : Int32) =>
(j9 v29 s4)))
else
(j9 v6 s4)))))))))) (fun (j5 : Int32 → PH → Option (Int32 × PH)) =>
(if a2 = 0 then
(j5 (nI 1) s1)
else
(j5 (nI 0) s1)))))))
set_option maxRecDepth 20000 in
set_option maxHeartbeats 2000000 in
theorem mX12_tellName (l : Launch) (n : Nat) (a1 : Int32) (a2 : Int32) (s0 : PH) : Cti 174 l yX12_tellName cX12_tellName 4 (some .int) (rmOf 3 65) (fun E => [.ref (E.2.1 148), .int a1, .int a2]) s0 (fX12_tellName n a1 a2 s0) := by
  refine Cti.of (by decide) rfl (lv := fun E => [(0, .ref (E.2.1 148)), (1, .int a1), (2, .int a2)]) (fun _ => Nat.le_of_ble_eq_true rfl) (fun _ => rfl) (fun Γ hΓ _ C => ?_)
  subst hΓ
  unfold fX12_tellName
  refine rf_iload_n C dX12_tellName_0 rfl 2 rfl ?_
  refine rf_bipush C (v := (nI 7)) dX12_tellName_1 rfl ?_
  refine rf_icmp_ne C 29 dX12_tellName_3 (by decide) (fun _ => ?_) (fun _ => ?_)
  · refine rf_aload_n C dX12_tellName_29 rfl 0 rfl ?_
    refine rf_iload_n C dX12_tellName_30 rfl 1 rfl ?_
    refine rf_callVi C (rmc := rmOf 2 44) [.int a1] (by decide) (mX12_isDefined (gL Γ) n a1 s0) mfX12_isDefined mvX12_isDefined mlX12_217 rfl oX12 rfl rfl rfl (Nat.le_of_ble_eq_true rfl) ⟨Nat.le_of_ble_eq_true rfl, Nat.le_of_ble_eq_true rfl⟩ dX12_tellName_31 (fun r2 s1 => ?_)
    refine rf_if_ne C 39 dX12_tellName_34 (by decide) (fun _ => ?_) (fun _ => ?_)
    · refine rf_iload_n C dX12_tellName_39 rfl 2 rfl ?_
      refine rf_jn2 (fun _ _ => True) (fun _ s4 => s4) (fun v3 s4 => [(0, .ref ((gE Γ).2.1 148)), (1, .int a1), (2, .int a2)]) (fun v3 s4 => [.int v3]) 48 (fun v3 s4 _ => ?_) (fun j5 hj5 => ?_)
      · refine rf_istore_n C (fun v6 => [(3, .int v6), (0, .ref ((gE Γ).2.1 148)), (1, .int a1), (2, .int a2)]) dX12_tellName_48 rfl (by decide) (fun _ => rfl) (fun v6 => ?_)
        refine rf_iload_n C dX12_tellName_49 rfl 3 rfl ?_
        refine rf_jn2 (fun _ _ => True) (fun _ s8 => s8) (fun v7 s8 => [(0, .ref ((gE Γ).2.1 148)), (1, .int a1), (2, .int a2), (3, .int v7)]) (fun v7 s8 => []) 154 (fun v7 s8 _ => ?_) (fun j9 hj9 => ?_)
        · refine rf_iload_n C dX12_tellName_154 rfl 2 rfl ?_
          refine rf_bipush C (v := (nI 6)) dX12_tellName_155 rfl ?_
          refine rf_icmp_ne C 168 dX12_tellName_157 (by decide) (fun _ => ?_) (fun _ => ?_)
          · refine rf_iload_n C dX12_tellName_168 rfl 3 rfl ?_
            refine rf_if_eq C 176 dX12_tellName_169 (by decide) (fun _ => ?_) (fun _ => ?_)
            · refine rf_iconst C (v := (nI 0)) dX12_tellName_176 rfl ?_
              exact rf_iret C dX12_tellName_177
            refine rf_iconst C (v := (nI 1)) dX12_tellName_172 rfl ?_
            refine rf_goto C 177 dX12_tellName_173 (by decide) ?_
            exact rf_iret C dX12_tellName_177
          refine rf_aload_n C dX12_tellName_160 rfl 0 rfl ?_
          refine rf_iload_n C dX12_tellName_161 rfl 1 rfl ?_
          refine rf_callVi C (rmc := rmOf 1 21) [.int a1] (by decide) (mX12_productionsOf (gL Γ) n a1 s8) mfX12_productionsOf mvX12_productionsOf mlX12_106 rfl oX12 rfl rfl rfl (Nat.le_of_ble_eq_true rfl) ⟨Nat.le_of_ble_eq_true rfl, Nat.le_of_ble_eq_true rfl⟩ dX12_tellName_162 (fun r11 s10 => ?_)
          refine rf_goto C 177 dX12_tellName_165 (by decide) ?_
          exact rf_iret C dX12_tellName_177
        refine rf_ite (fun hk12 => ?_) (fun hk12 => ?_)
        · refine rf_swIn C 84 dX12_tellName_50 (by rw [hk12]; decide) (by rw [hk12]; decide) (by rw [hk12]; rfl) (by decide) ?_
          refine rf_aload_n C dX12_tellName_84 rfl 1 rfl ?_
          refine rf_get C (v := .ref ((gE Γ).2.1 153)) cfX12 flX12_26 (by decide) oX12 rfl dX12_tellName_85 ?_
          refine rf_iload_n C dX12_tellName_88 rfl 2 rfl ?_
          refine rf_zald C ar153 dX12_tellName_89 (fun v13 => ?_)
          refine rf_istore_n C (fun v14 => [(3, .int v14), (0, .ref ((gE Γ).2.1 148)), (1, .int a1), (2, .int a2)]) dX12_tellName_90 rfl (by decide) (fun _ => rfl) (fun v14 => ?_)
          refine rf_goto C 154 dX12_tellName_91 (by decide) ?_
          exact rf_sub [1, 2, 3, 0] rfl (hj9 v14 s4 trivial)
        refine rf_ite (fun hk15 => ?_) (fun hk15 => ?_)
        · refine rf_swIn C 94 dX12_tellName_50 (by rw [hk15]; decide) (by rw [hk15]; decide) (by rw [hk15]; rfl) (by decide) ?_
          refine rf_aload_n C dX12_tellName_94 rfl 1 rfl ?_
          refine rf_get C (v := .ref ((gE Γ).2.1 154)) cfX12 flX12_30 (by decide) oX12 rfl dX12_tellName_95 ?_
          refine rf_iload_n C dX12_tellName_98 rfl 2 rfl ?_
          refine rf_iald C ar154 dX12_tellName_99 (fun v16 => ?_)
          refine rf_ldc C dX12_tellName_100 kiX12_123 ?_
          refine rf_jn2 (fun _ _ => True) (fun _ s18 => s18) (fun v17 s18 => [(0, .ref ((gE Γ).2.1 148)), (1, .int a1), (2, .int a2)]) (fun v17 s18 => [.int v17]) 110 (fun v17 s18 _ => ?_) (fun j19 hj19 => ?_)
          · refine rf_istore_n C (fun v20 => [(3, .int v20), (0, .ref ((gE Γ).2.1 148)), (1, .int a1), (2, .int a2)]) dX12_tellName_110 rfl (by decide) (fun _ => rfl) (fun v20 => ?_)
            refine rf_goto C 154 dX12_tellName_111 (by decide) ?_
            exact rf_sub [1, 2, 3, 0] rfl (hj9 v20 s18 trivial)
          refine rf_icmp_ge C 109 dX12_tellName_102 (by decide) (fun _ => ?_) (fun _ => ?_)
          · refine rf_iconst C (v := (nI 0)) dX12_tellName_109 rfl ?_
            exact rf_sub [1, 2, 3] rfl (hj19 (nI 0) s4 trivial)
          refine rf_iconst C (v := (nI 1)) dX12_tellName_105 rfl ?_
          refine rf_goto C 110 dX12_tellName_106 (by decide) ?_
          exact rf_sub [1, 2, 3] rfl (hj19 (nI 1) s4 trivial)
        refine rf_ite (fun hk21 => ?_) (fun hk21 => ?_)
        · refine rf_swIn C 114 dX12_tellName_50 (by rw [hk21]; decide) (by rw [hk21]; decide) (by rw [hk21]; rfl) (by decide) ?_
          refine rf_aload_n C dX12_tellName_114 rfl 1 rfl ?_
          refine rf_get C (v := .ref ((gE Γ).2.1 155)) cfX12 flX12_33 (by decide) oX12 rfl dX12_tellName_115 ?_
          refine rf_iload_n C dX12_tellName_118 rfl 2 rfl ?_
          refine rf_zald C ar155 dX12_tellName_119 (fun v22 => ?_)
          refine rf_istore_n C (fun v23 => [(3, .int v23), (0, .ref ((gE Γ).2.1 148)), (1, .int a1), (2, .int a2)]) dX12_tellName_120 rfl (by decide) (fun _ => rfl) (fun v23 => ?_)
          refine rf_goto C 154 dX12_tellName_121 (by decide) ?_
          exact rf_sub [1, 2, 3, 0] rfl (hj9 v23 s4 trivial)
        refine rf_ite (fun hk24 => ?_) (fun hk24 => ?_)
        · refine rf_swIn C 124 dX12_tellName_50 (by rw [hk24]; decide) (by rw [hk24]; decide) (by rw [hk24]; rfl) (by decide) ?_
          refine rf_aload_n C dX12_tellName_124 rfl 1 rfl ?_
          refine rf_get C (v := .ref ((gE Γ).2.1 156)) cfX12 flX12_36 (by decide) oX12 rfl dX12_tellName_125 ?_
          refine rf_bipush C (v := (nI 6)) dX12_tellName_128 rfl ?_
          refine rf_iload_n C dX12_tellName_130 rfl 2 rfl ?_
          refine rf_imul C dX12_tellName_131 ?_
          refine rf_iload_n C dX12_tellName_132 rfl 2 rfl ?_
          refine rf_iadd C dX12_tellName_133 ?_
          refine rf_zald C ar156 dX12_tellName_134 (fun v25 => ?_)
          refine rf_istore_n C (fun v26 => [(3, .int v26), (0, .ref ((gE Γ).2.1 148)), (1, .int a1), (2, .int a2)]) dX12_tellName_135 rfl (by decide) (fun _ => rfl) (fun v26 => ?_)
          refine rf_goto C 154 dX12_tellName_136 (by decide) ?_
          exact rf_sub [1, 2, 3, 0] rfl (hj9 v26 s4 trivial)
        refine rf_ite (fun hk27 => ?_) (fun hk27 => ?_)
        · refine rf_swIn C 139 dX12_tellName_50 (by rw [hk27]; decide) (by rw [hk27]; decide) (by rw [hk27]; rfl) (by decide) ?_
          refine rf_aload_n C dX12_tellName_139 rfl 1 rfl ?_
          refine rf_get C (v := .ref ((gE Γ).2.1 157)) cfX12 flX12_39 (by decide) oX12 rfl dX12_tellName_140 ?_
          refine rf_bipush C (v := (nI 6)) dX12_tellName_143 rfl ?_
          refine rf_iload_n C dX12_tellName_145 rfl 2 rfl ?_
          refine rf_imul C dX12_tellName_146 ?_
          refine rf_iload_n C dX12_tellName_147 rfl 2 rfl ?_
          refine rf_iadd C dX12_tellName_148 ?_
          refine rf_zald C ar157 dX12_tellName_149 (fun v28 => ?_)
          refine rf_istore_n C (fun v29 => [(3, .int v29), (0, .ref ((gE Γ).2.1 148)), (1, .int a1), (2, .int a2)]) dX12_tellName_150 rfl (by decide) (fun _ => rfl) (fun v29 => ?_)
          refine rf_goto C 154 dX12_tellName_151 (by decide) ?_
          exact rf_sub [1, 2, 3, 0] rfl (hj9 v29 s4 trivial)
        refine rf_swOut C 154 dX12_tellName_50 (by have nhk12 := lv_neT hk12 (show (nI 1).toInt = 1 from rfl); have nhk15 := lv_neT hk15 (show (nI 2).toInt = 2 from rfl); have nhk21 := lv_neT hk21 (show (nI 3).toInt = 3 from rfl); have nhk24 := lv_neT hk24 (show (nI 4).toInt = 4 from rfl); have nhk27 := lv_neT hk27 (show (nI 5).toInt = 5 from rfl); omega) (by decide) ?_
        exact rf_sub [1, 2, 3, 0] rfl (hj9 v6 s4 trivial)
      refine rf_if_ne C 47 dX12_tellName_40 (by decide) (fun _ => ?_) (fun _ => ?_)
      · refine rf_iconst C (v := (nI 0)) dX12_tellName_47 rfl ?_
        exact rf_sub [0, 1, 2] rfl (hj5 (nI 0) s1 trivial)
      refine rf_iconst C (v := (nI 1)) dX12_tellName_43 rfl ?_
      refine rf_goto C 48 dX12_tellName_44 (by decide) ?_
      exact rf_sub [0, 1, 2] rfl (hj5 (nI 1) s1 trivial)
    refine rf_iconst C (v := (nI 0)) dX12_tellName_37 rfl ?_
    exact rf_iret C dX12_tellName_38
  refine rf_aload_n C dX12_tellName_6 rfl 0 rfl ?_
  refine rf_get C (v := .ref ((gE Γ).2.1 154)) cfX12 flX12_30 (by decide) oX12 rfl dX12_tellName_7 ?_
  refine rf_iload_n C dX12_tellName_10 rfl 1 rfl ?_
  refine rf_iald C ar154 dX12_tellName_11 (fun v30 => ?_)
  refine rf_ldc C dX12_tellName_12 kiX12_123 ?_
  refine rf_icmp_ne C 22 dX12_tellName_14 (by decide) (fun _ => ?_) (fun _ => ?_)
  · refine rf_aload_n C dX12_tellName_22 rfl 0 rfl ?_
    refine rf_get C (v := .ref ((gE Γ).2.1 154)) cfX12 flX12_30 (by decide) oX12 rfl dX12_tellName_23 ?_
    refine rf_iload_n C dX12_tellName_26 rfl 1 rfl ?_
    refine rf_iald C ar154 dX12_tellName_27 (fun v31 => ?_)
    exact rf_iret C dX12_tellName_28
  refine rf_bipush C (v := (-9 : Int32)) dX12_tellName_17 rfl ?_
  refine rf_goto C 28 dX12_tellName_19 (by decide) ?_
  exact rf_iret C dX12_tellName_28

def fX12_nonterminal (n : Nat) (a1 : Int32) (a2 : Int32) (s0 : PH) : Option (Int32 × PH) :=
(bd (fX12_in a1 (nI 0) (nI 5) s0) fun (r2 : Int32) (s1 : PH) =>
(if r2 = 0 then
(some ((-1 : Int32), s1))
else
(bd (fX12_in a2 (nI 0) (nI 7) s1) fun (r4 : Int32) (s3 : PH) =>
(if r4 = 0 then
(some ((-1 : Int32), s3))
else
(bd (fX12_tellName n a1 a2 s3) fun (r6 : Int32) (s5 : PH) =>
(some (r6, s5)))))))
set_option maxRecDepth 20000 in
set_option maxHeartbeats 2000000 in
theorem mX12_nonterminal (l : Launch) (n : Nat) (a1 : Int32) (a2 : Int32) (s0 : PH) : Cti 174 l yX12_nonterminal cX12_nonterminal 3 (some .int) (rmOf 4 88) (fun E => [.ref (E.2.1 148), .int a1, .int a2]) s0 (fX12_nonterminal n a1 a2 s0) := by
  refine Cti.of (by decide) rfl (lv := fun E => [(0, .ref (E.2.1 148)), (1, .int a1), (2, .int a2)]) (fun _ => Nat.le_of_ble_eq_true rfl) (fun _ => rfl) (fun Γ hΓ _ C => ?_)
  subst hΓ
  unfold fX12_nonterminal
  refine rf_iload_n C dX12_nonterminal_0 rfl 1 rfl ?_
  refine rf_iconst C (v := (nI 0)) dX12_nonterminal_1 rfl ?_
  refine rf_iconst C (v := (nI 5)) dX12_nonterminal_2 rfl ?_
  refine rf_callSi C (rmc := rmOf 0 0) [.int a1, .int (nI 0), .int (nI 5)] (by decide) (mX12_in (gL Γ) a1 (nI 0) (nI 5) s0) mfX12_in msX12_in mlX12_98 rfl rfl rfl (Nat.le_of_ble_eq_true rfl) ⟨Nat.le_of_ble_eq_true rfl, Nat.le_of_ble_eq_true rfl⟩ dX12_nonterminal_3 (fun r2 s1 => ?_)
  refine rf_if_eq C 28 dX12_nonterminal_6 (by decide) (fun _ => ?_) (fun _ => ?_)
  · refine rf_iconst C (v := (-1 : Int32)) dX12_nonterminal_28 rfl ?_
    exact rf_iret C dX12_nonterminal_29
  refine rf_iload_n C dX12_nonterminal_9 rfl 2 rfl ?_
  refine rf_iconst C (v := (nI 0)) dX12_nonterminal_10 rfl ?_
  refine rf_bipush C (v := (nI 7)) dX12_nonterminal_11 rfl ?_
  refine rf_callSi C (rmc := rmOf 0 0) [.int a2, .int (nI 0), .int (nI 7)] (by decide) (mX12_in (gL Γ) a2 (nI 0) (nI 7) s1) mfX12_in msX12_in mlX12_98 rfl rfl rfl (Nat.le_of_ble_eq_true rfl) ⟨Nat.le_of_ble_eq_true rfl, Nat.le_of_ble_eq_true rfl⟩ dX12_nonterminal_13 (fun r4 s3 => ?_)
  refine rf_if_eq C 28 dX12_nonterminal_16 (by decide) (fun _ => ?_) (fun _ => ?_)
  · refine rf_iconst C (v := (-1 : Int32)) dX12_nonterminal_28 rfl ?_
    exact rf_iret C dX12_nonterminal_29
  refine rf_aload_n C dX12_nonterminal_19 rfl 0 rfl ?_
  refine rf_iload_n C dX12_nonterminal_20 rfl 1 rfl ?_
  refine rf_iload_n C dX12_nonterminal_21 rfl 2 rfl ?_
  refine rf_callVi C (rmc := rmOf 3 65) [.int a1, .int a2] (by decide) (mX12_tellName (gL Γ) n a1 a2 s3) mfX12_tellName mvX12_tellName mlX12_220 rfl oX12 rfl rfl rfl (Nat.le_of_ble_eq_true rfl) ⟨Nat.le_of_ble_eq_true rfl, Nat.le_of_ble_eq_true rfl⟩ dX12_nonterminal_22 (fun r6 s5 => ?_)
  refine rf_goto C 29 dX12_nonterminal_25 (by decide) ?_
  exact rf_iret C dX12_nonterminal_29

def fX12_isDepth (a1 : Int32) (s0 : PH) : Option (Int32 × PH) :=
(bd (fX12_in a1 (nI 0) (nI 3) s0) fun (r2 : Int32) (s1 : PH) =>
(rz r2 s1))
set_option maxRecDepth 20000 in
set_option maxHeartbeats 2000000 in
theorem mX12_isDepth (l : Launch) (a1 : Int32) (s0 : PH) : Cti 174 l yX12_isDepth cX12_isDepth 1 (some .boolean) (rmOf 1 22) (fun E => [.int a1]) s0 (fX12_isDepth a1 s0) := by
  refine Cti.of (by decide) rfl (lv := fun E => [(0, .int a1)]) (fun _ => Nat.le_of_ble_eq_true rfl) (fun _ => rfl) (fun Γ hΓ _ C => ?_)
  subst hΓ
  unfold fX12_isDepth
  refine rf_iload_n C dX12_isDepth_0 rfl 0 rfl ?_
  refine rf_iconst C (v := (nI 0)) dX12_isDepth_1 rfl ?_
  refine rf_iconst C (v := (nI 3)) dX12_isDepth_2 rfl ?_
  refine rf_callSi C (rmc := rmOf 0 0) [.int a1, .int (nI 0), .int (nI 3)] (by decide) (mX12_in (gL Γ) a1 (nI 0) (nI 3) s0) mfX12_in msX12_in mlX12_98 rfl rfl rfl (Nat.le_of_ble_eq_true rfl) ⟨Nat.le_of_ble_eq_true rfl, Nat.le_of_ble_eq_true rfl⟩ dX12_isDepth_3 (fun r2 s1 => ?_)
  exact rf_zretv C dX12_isDepth_6

def fX12_isWord (n : Nat) (a1 : Int32) (a2 : Int32) (s0 : PH) : Option (Int32 × PH) :=
(bd (fX12_in a1 (nI 0) (nI 215) s0) fun (r2 : Int32) (s1 : PH) =>
(if r2 = 0 then
(some ((nI 0), s1))
else
(bd (fX12_lettersOf a1 s1) fun (r4 : Int32) (s3 : PH) =>
(lt r4 fun (v5 : Int32) =>
(jn (fun (v6 : Int32) (s7 : PH) =>
(lt v6 fun (v9 : Int32) =>
(lt a1 fun (v10 : Int32) =>
(loo3 (fun (recrec14 : Int32 → Int32 → PH → Option (Int32 × PH)) (v11 : Int32) (v12 : Int32) (s13 : PH) =>
(if v12 ≤ 0 then
(rz v11 s13)
else
(jn (fun (v15 : Int32) (s16 : PH) =>
(lt v15 fun (v18 : Int32) =>
(lt (v12 / (nI 6)) fun (v19 : Int32) =>
(recrec14 v18 v19 s16)))) (fun (j17 : Int32 → PH → Option (Int32 × PH)) =>
(jn (fun (s20 : PH) =>
(j17 (nI 0) s20)) (fun (j21 : PH → Option (Int32 × PH)) =>
(if v11 = 0 then
(j21 s13)
else
(if (v12 - v12 / (nI 6) * (nI 6)) ≤ 0 then
(j21 s13)
else
(j17 (nI 1) s13))))))))) n v9 v10 s7)))) (fun (j8 : Int32 → PH → Option (Int32 × PH)) =>
(if a2 < v5 then
(j8 (nI 0) s3)
else
(j8 (nI 1) s3))))))))
set_option maxRecDepth 20000 in
set_option maxHeartbeats 2000000 in
theorem mX12_isWord (l : Launch) (n : Nat) (a1 : Int32) (a2 : Int32) (s0 : PH) : Cti 174 l yX12_isWord cX12_isWord 5 (some .boolean) (rmOf 1 22) (fun E => [.int a1, .int a2]) s0 (fX12_isWord n a1 a2 s0) := by
  refine Cti.of (by decide) rfl (lv := fun E => [(0, .int a1), (1, .int a2)]) (fun _ => Nat.le_of_ble_eq_true rfl) (fun _ => rfl) (fun Γ hΓ _ C => ?_)
  subst hΓ
  unfold fX12_isWord
  refine rf_iload_n C dX12_isWord_0 rfl 0 rfl ?_
  refine rf_iconst C (v := (nI 0)) dX12_isWord_1 rfl ?_
  refine rf_sipush C (v := (nI 215)) dX12_isWord_2 rfl ?_
  refine rf_callSi C (rmc := rmOf 0 0) [.int a1, .int (nI 0), .int (nI 215)] (by decide) (mX12_in (gL Γ) a1 (nI 0) (nI 215) s0) mfX12_in msX12_in mlX12_98 rfl rfl rfl (Nat.le_of_ble_eq_true rfl) ⟨Nat.le_of_ble_eq_true rfl, Nat.le_of_ble_eq_true rfl⟩ dX12_isWord_5 (fun r2 s1 => ?_)
  refine rf_if_ne C 13 dX12_isWord_8 (by decide) (fun _ => ?_) (fun _ => ?_)
  · refine rf_iload_n C dX12_isWord_13 rfl 0 rfl ?_
    refine rf_callSi C (rmc := rmOf 0 0) [.int a1] (by decide) (mX12_lettersOf (gL Γ) a1 s1) mfX12_lettersOf msX12_lettersOf mlX12_131 rfl rfl rfl (Nat.le_of_ble_eq_true rfl) ⟨Nat.le_of_ble_eq_true rfl, Nat.le_of_ble_eq_true rfl⟩ dX12_isWord_14 (fun r4 s3 => ?_)
    refine rf_istore_n C (fun v5 => [(2, .int v5), (0, .int a1), (1, .int a2)]) dX12_isWord_17 rfl (by decide) (fun _ => rfl) (fun v5 => ?_)
    refine rf_iload_n C dX12_isWord_18 rfl 0 rfl ?_
    refine rf_iload_n C dX12_isWord_19 rfl 2 rfl ?_
    refine rf_jn2 (fun _ _ => True) (fun _ s7 => s7) (fun v6 s7 => [(0, .int a1)]) (fun v6 s7 => [.int v6]) 28 (fun v6 s7 _ => ?_) (fun j8 hj8 => ?_)
    · refine rf_istore_n C (fun v9 => [(3, .int v9), (0, .int a1)]) dX12_isWord_28 rfl (by decide) (fun _ => rfl) (fun v9 => ?_)
      refine rf_iload_n C dX12_isWord_29 rfl 1 rfl ?_
      refine rf_istore C (fun v10 => [(4, .int v10), (3, .int v9), (0, .int a1)]) dX12_isWord_30 (by decide) (fun _ => rfl) (fun v10 => ?_)
      refine rf_sub [1, 0] rfl ?_
      refine rf_loo3 (fun _ _ _ => True) (fun _ _ s13 => s13) (fun v11 v12 s13 => [(3, .int v11), (4, .int v12)]) (fun recrec14 hrec14 v11 v12 s13 _ => ?_) n v9 v10 s7 trivial
      refine rf_iload C dX12_isWord_32 1 rfl ?_
      refine rf_if_le C 65 dX12_isWord_34 (by decide) (fun _ => ?_) (fun _ => ?_)
      · refine rf_iload_n C dX12_isWord_65 rfl 0 rfl ?_
        exact rf_zretv C dX12_isWord_66
      refine rf_iload_n C dX12_isWord_37 rfl 0 rfl ?_
      refine rf_jn2 (fun _ _ => True) (fun _ s16 => s16) (fun v15 s16 => [(4, .int v12)]) (fun v15 s16 => [.int v15]) 54 (fun v15 s16 _ => ?_) (fun j17 hj17 => ?_)
      · refine rf_istore_n C (fun v18 => [(3, .int v18), (4, .int v12)]) dX12_isWord_54 rfl (by decide) (fun _ => rfl) (fun v18 => ?_)
        refine rf_iload C dX12_isWord_55 1 rfl ?_
        refine rf_bipush C (v := (nI 6)) dX12_isWord_57 rfl ?_
        refine rf_idiv C dX12_isWord_59 (by decide) ?_
        refine rf_istore C (fun v19 => [(4, .int v19), (3, .int v18)]) dX12_isWord_60 (by decide) (fun _ => rfl) (fun v19 => ?_)
        refine rf_goto C 32 dX12_isWord_62 (by decide) ?_
        exact rf_sub [1, 0] rfl (hrec14 v18 v19 s16 trivial)
      refine rf_jn1 (fun _ => True) (fun  s20 => s20) (fun s20 => [(4, .int v12)]) (fun s20 => []) 53 (fun s20 _ => ?_) (fun j21 hj21 => ?_)
      · refine rf_iconst C (v := (nI 0)) dX12_isWord_53 rfl ?_
        exact rf_sub [0] rfl (hj17 (nI 0) s20 trivial)
      refine rf_if_eq C 53 dX12_isWord_38 (by decide) (fun _ => ?_) (fun _ => ?_)
      · exact rf_sub [1] rfl (hj21 s13 trivial)
      refine rf_iload C dX12_isWord_41 1 rfl ?_
      refine rf_bipush C (v := (nI 6)) dX12_isWord_43 rfl ?_
      refine rf_irem C dX12_isWord_45 (by decide) ?_
      refine rf_if_le C 53 dX12_isWord_46 (by decide) (fun _ => ?_) (fun _ => ?_)
      · exact rf_sub [1] rfl (hj21 s13 trivial)
      refine rf_iconst C (v := (nI 1)) dX12_isWord_49 rfl ?_
      refine rf_goto C 54 dX12_isWord_50 (by decide) ?_
      exact rf_sub [1] rfl (hj17 (nI 1) s13 trivial)
    refine rf_icmp_gt C 27 dX12_isWord_20 (by decide) (fun _ => ?_) (fun _ => ?_)
    · refine rf_iconst C (v := (nI 0)) dX12_isWord_27 rfl ?_
      exact rf_sub [1] rfl (hj8 (nI 0) s3 trivial)
    refine rf_iconst C (v := (nI 1)) dX12_isWord_23 rfl ?_
    refine rf_goto C 28 dX12_isWord_24 (by decide) ?_
    exact rf_sub [1] rfl (hj8 (nI 1) s3 trivial)
  refine rf_iconst C (v := (nI 0)) dX12_isWord_11 rfl ?_
  exact rf_zret C rfl dX12_isWord_12

def fX12_has (a1 : Int32) (a2 : Int32) (a3 : Int32) (s0 : PH) : Option (Int32 × PH) :=
(ra 24192 ((((nI 6048) * a2) + a1) + a3) (s0.1 164) fun (v1 : Int32) =>
(rz v1 s0))
set_option maxRecDepth 20000 in
set_option maxHeartbeats 2000000 in
theorem mX12_has (l : Launch) (a1 : Int32) (a2 : Int32) (a3 : Int32) (s0 : PH) : Cti 174 l yX12_has cX12_has 4 (some .boolean) (rmOf 0 0) (fun E => [.ref (E.2.1 148), .int a1, .int a2, .int a3]) s0 (fX12_has a1 a2 a3 s0) := by
  refine Cti.of (by decide) rfl (lv := fun E => [(0, .ref (E.2.1 148)), (1, .int a1), (2, .int a2), (3, .int a3)]) (fun _ => Nat.le_of_ble_eq_true rfl) (fun _ => rfl) (fun Γ hΓ _ C => ?_)
  subst hΓ
  unfold fX12_has
  refine rf_aload_n C dX12_has_0 rfl 0 rfl ?_
  refine rf_get C (v := .ref ((gE Γ).2.1 164)) cfX12 flX12_60 (by decide) oX12 rfl dX12_has_1 ?_
  refine rf_sipush C (v := (nI 6048)) dX12_has_4 rfl ?_
  refine rf_iload_n C dX12_has_7 rfl 2 rfl ?_
  refine rf_imul C dX12_has_8 ?_
  refine rf_iload_n C dX12_has_9 rfl 1 rfl ?_
  refine rf_iadd C dX12_has_10 ?_
  refine rf_iload_n C dX12_has_11 rfl 3 rfl ?_
  refine rf_iadd C dX12_has_12 ?_
  refine rf_zald C ar164 dX12_has_13 (fun v1 => ?_)
  exact rf_zretv C dX12_has_14

def fX12_first (n : Nat) (a1 : Int32) (a2 : Int32) (a3 : Int32) (s0 : PH) : Option (Int32 × PH) :=
(bd (fX12_isDefined n a1 s0) fun (r2 : Int32) (s1 : PH) =>
(if r2 = 0 then
(some ((-1 : Int32), s1))
else
(bd (fX12_isDepth a2 s1) fun (r4 : Int32) (s3 : PH) =>
(if r4 = 0 then
(some ((-1 : Int32), s3))
else
(bd (fX12_isWord n a3 a2 s3) fun (r6 : Int32) (s5 : PH) =>
(if r6 = 0 then
(some ((-1 : Int32), s5))
else
(bd (fX12_has ((nI 216) * a1) a2 a3 s5) fun (r8 : Int32) (s7 : PH) =>
(if r8 = 0 then
(some ((nI 0), s7))
else
(some ((nI 1), s7))))))))))
set_option maxRecDepth 20000 in
set_option maxHeartbeats 2000000 in
theorem mX12_first (l : Launch) (n : Nat) (a1 : Int32) (a2 : Int32) (a3 : Int32) (s0 : PH) : Cti 174 l yX12_first cX12_first 4 (some .int) (rmOf 3 65) (fun E => [.ref (E.2.1 148), .int a1, .int a2, .int a3]) s0 (fX12_first n a1 a2 a3 s0) := by
  refine Cti.of (by decide) rfl (lv := fun E => [(0, .ref (E.2.1 148)), (1, .int a1), (2, .int a2), (3, .int a3)]) (fun _ => Nat.le_of_ble_eq_true rfl) (fun _ => rfl) (fun Γ hΓ _ C => ?_)
  subst hΓ
  unfold fX12_first
  refine rf_aload_n C dX12_first_0 rfl 0 rfl ?_
  refine rf_iload_n C dX12_first_1 rfl 1 rfl ?_
  refine rf_callVi C (rmc := rmOf 2 44) [.int a1] (by decide) (mX12_isDefined (gL Γ) n a1 s0) mfX12_isDefined mvX12_isDefined mlX12_217 rfl oX12 rfl rfl rfl (Nat.le_of_ble_eq_true rfl) ⟨Nat.le_of_ble_eq_true rfl, Nat.le_of_ble_eq_true rfl⟩ dX12_first_2 (fun r2 s1 => ?_)
  refine rf_if_eq C 23 dX12_first_5 (by decide) (fun _ => ?_) (fun _ => ?_)
  · refine rf_iconst C (v := (-1 : Int32)) dX12_first_23 rfl ?_
    exact rf_iret C dX12_first_24
  refine rf_iload_n C dX12_first_8 rfl 2 rfl ?_
  refine rf_callSi C (rmc := rmOf 1 22) [.int a2] (by decide) (mX12_isDepth (gL Γ) a2 s1) mfX12_isDepth msX12_isDepth mlX12_223 rfl rfl rfl (Nat.le_of_ble_eq_true rfl) ⟨Nat.le_of_ble_eq_true rfl, Nat.le_of_ble_eq_true rfl⟩ dX12_first_9 (fun r4 s3 => ?_)
  refine rf_if_eq C 23 dX12_first_12 (by decide) (fun _ => ?_) (fun _ => ?_)
  · refine rf_iconst C (v := (-1 : Int32)) dX12_first_23 rfl ?_
    exact rf_iret C dX12_first_24
  refine rf_iload_n C dX12_first_15 rfl 3 rfl ?_
  refine rf_iload_n C dX12_first_16 rfl 2 rfl ?_
  refine rf_callSi C (rmc := rmOf 1 22) [.int a3, .int a2] (by decide) (mX12_isWord (gL Γ) n a3 a2 s3) mfX12_isWord msX12_isWord mlX12_226 rfl rfl rfl (Nat.le_of_ble_eq_true rfl) ⟨Nat.le_of_ble_eq_true rfl, Nat.le_of_ble_eq_true rfl⟩ dX12_first_17 (fun r6 s5 => ?_)
  refine rf_if_ne C 25 dX12_first_20 (by decide) (fun _ => ?_) (fun _ => ?_)
  · refine rf_aload_n C dX12_first_25 rfl 0 rfl ?_
    refine rf_sipush C (v := (nI 216)) dX12_first_26 rfl ?_
    refine rf_iload_n C dX12_first_29 rfl 1 rfl ?_
    refine rf_imul C dX12_first_30 ?_
    refine rf_iload_n C dX12_first_31 rfl 2 rfl ?_
    refine rf_iload_n C dX12_first_32 rfl 3 rfl ?_
    refine rf_callVi C (rmc := rmOf 0 0) [.int ((nI 216) * a1), .int a2, .int a3] (by decide) (mX12_has (gL Γ) ((nI 216) * a1) a2 a3 s5) mfX12_has mvX12_has mlX12_182 rfl oX12 rfl rfl rfl (Nat.le_of_ble_eq_true rfl) ⟨Nat.le_of_ble_eq_true rfl, Nat.le_of_ble_eq_true rfl⟩ dX12_first_33 (fun r8 s7 => ?_)
    refine rf_if_eq C 43 dX12_first_36 (by decide) (fun _ => ?_) (fun _ => ?_)
    · refine rf_iconst C (v := (nI 0)) dX12_first_43 rfl ?_
      exact rf_iret C dX12_first_44
    refine rf_iconst C (v := (nI 1)) dX12_first_39 rfl ?_
    refine rf_goto C 44 dX12_first_40 (by decide) ?_
    exact rf_iret C dX12_first_44
  refine rf_iconst C (v := (-1 : Int32)) dX12_first_23 rfl ?_
  exact rf_iret C dX12_first_24

def fX12_follow (n : Nat) (a1 : Int32) (a2 : Int32) (a3 : Int32) (s0 : PH) : Option (Int32 × PH) :=
(bd (fX12_isDefined n a1 s0) fun (r2 : Int32) (s1 : PH) =>
(if r2 = 0 then
(some ((-1 : Int32), s1))
else
(bd (fX12_isDepth a2 s1) fun (r4 : Int32) (s3 : PH) =>
(if r4 = 0 then
(some ((-1 : Int32), s3))
else
(bd (fX12_isWord n a3 a2 s3) fun (r6 : Int32) (s5 : PH) =>
(if r6 = 0 then
(some ((-1 : Int32), s5))
else
(bd (fX12_has ((nI 1296) + ((nI 216) * a1)) a2 a3 s5) fun (r8 : Int32) (s7 : PH) =>
(if r8 = 0 then
(some ((nI 0), s7))
else
(some ((nI 1), s7))))))))))
set_option maxRecDepth 20000 in
set_option maxHeartbeats 2000000 in
theorem mX12_follow (l : Launch) (n : Nat) (a1 : Int32) (a2 : Int32) (a3 : Int32) (s0 : PH) : Cti 174 l yX12_follow cX12_follow 4 (some .int) (rmOf 3 65) (fun E => [.ref (E.2.1 148), .int a1, .int a2, .int a3]) s0 (fX12_follow n a1 a2 a3 s0) := by
  refine Cti.of (by decide) rfl (lv := fun E => [(0, .ref (E.2.1 148)), (1, .int a1), (2, .int a2), (3, .int a3)]) (fun _ => Nat.le_of_ble_eq_true rfl) (fun _ => rfl) (fun Γ hΓ _ C => ?_)
  subst hΓ
  unfold fX12_follow
  refine rf_aload_n C dX12_follow_0 rfl 0 rfl ?_
  refine rf_iload_n C dX12_follow_1 rfl 1 rfl ?_
  refine rf_callVi C (rmc := rmOf 2 44) [.int a1] (by decide) (mX12_isDefined (gL Γ) n a1 s0) mfX12_isDefined mvX12_isDefined mlX12_217 rfl oX12 rfl rfl rfl (Nat.le_of_ble_eq_true rfl) ⟨Nat.le_of_ble_eq_true rfl, Nat.le_of_ble_eq_true rfl⟩ dX12_follow_2 (fun r2 s1 => ?_)
  refine rf_if_eq C 23 dX12_follow_5 (by decide) (fun _ => ?_) (fun _ => ?_)
  · refine rf_iconst C (v := (-1 : Int32)) dX12_follow_23 rfl ?_
    exact rf_iret C dX12_follow_24
  refine rf_iload_n C dX12_follow_8 rfl 2 rfl ?_
  refine rf_callSi C (rmc := rmOf 1 22) [.int a2] (by decide) (mX12_isDepth (gL Γ) a2 s1) mfX12_isDepth msX12_isDepth mlX12_223 rfl rfl rfl (Nat.le_of_ble_eq_true rfl) ⟨Nat.le_of_ble_eq_true rfl, Nat.le_of_ble_eq_true rfl⟩ dX12_follow_9 (fun r4 s3 => ?_)
  refine rf_if_eq C 23 dX12_follow_12 (by decide) (fun _ => ?_) (fun _ => ?_)
  · refine rf_iconst C (v := (-1 : Int32)) dX12_follow_23 rfl ?_
    exact rf_iret C dX12_follow_24
  refine rf_iload_n C dX12_follow_15 rfl 3 rfl ?_
  refine rf_iload_n C dX12_follow_16 rfl 2 rfl ?_
  refine rf_callSi C (rmc := rmOf 1 22) [.int a3, .int a2] (by decide) (mX12_isWord (gL Γ) n a3 a2 s3) mfX12_isWord msX12_isWord mlX12_226 rfl rfl rfl (Nat.le_of_ble_eq_true rfl) ⟨Nat.le_of_ble_eq_true rfl, Nat.le_of_ble_eq_true rfl⟩ dX12_follow_17 (fun r6 s5 => ?_)
  refine rf_if_ne C 25 dX12_follow_20 (by decide) (fun _ => ?_) (fun _ => ?_)
  · refine rf_aload_n C dX12_follow_25 rfl 0 rfl ?_
    refine rf_sipush C (v := (nI 1296)) dX12_follow_26 rfl ?_
    refine rf_sipush C (v := (nI 216)) dX12_follow_29 rfl ?_
    refine rf_iload_n C dX12_follow_32 rfl 1 rfl ?_
    refine rf_imul C dX12_follow_33 ?_
    refine rf_iadd C dX12_follow_34 ?_
    refine rf_iload_n C dX12_follow_35 rfl 2 rfl ?_
    refine rf_iload_n C dX12_follow_36 rfl 3 rfl ?_
    refine rf_callVi C (rmc := rmOf 0 0) [.int ((nI 1296) + ((nI 216) * a1)), .int a2, .int a3] (by decide) (mX12_has (gL Γ) ((nI 1296) + ((nI 216) * a1)) a2 a3 s5) mfX12_has mvX12_has mlX12_182 rfl oX12 rfl rfl rfl (Nat.le_of_ble_eq_true rfl) ⟨Nat.le_of_ble_eq_true rfl, Nat.le_of_ble_eq_true rfl⟩ dX12_follow_37 (fun r8 s7 => ?_)
    refine rf_if_eq C 47 dX12_follow_40 (by decide) (fun _ => ?_) (fun _ => ?_)
    · refine rf_iconst C (v := (nI 0)) dX12_follow_47 rfl ?_
      exact rf_iret C dX12_follow_48
    refine rf_iconst C (v := (nI 1)) dX12_follow_43 rfl ?_
    refine rf_goto C 48 dX12_follow_44 (by decide) ?_
    exact rf_iret C dX12_follow_48
  refine rf_iconst C (v := (-1 : Int32)) dX12_follow_23 rfl ?_
  exact rf_iret C dX12_follow_24

def fX12_ahead (n : Nat) (a1 : Int32) (a2 : Int32) (a3 : Int32) (s0 : PH) : Option (Int32 × PH) :=
(bd (fX12_isProduction a1 s0) fun (r2 : Int32) (s1 : PH) =>
(if r2 = 0 then
(some ((-1 : Int32), s1))
else
(bd (fX12_isDepth a2 s1) fun (r4 : Int32) (s3 : PH) =>
(if r4 = 0 then
(some ((-1 : Int32), s3))
else
(bd (fX12_isWord n a3 a2 s3) fun (r6 : Int32) (s5 : PH) =>
(if r6 = 0 then
(some ((-1 : Int32), s5))
else
(bd (fX12_has ((nI 2592) + ((nI 216) * a1)) a2 a3 s5) fun (r8 : Int32) (s7 : PH) =>
(if r8 = 0 then
(some ((nI 0), s7))
else
(some ((nI 1), s7))))))))))
set_option maxRecDepth 20000 in
set_option maxHeartbeats 2000000 in
theorem mX12_ahead (l : Launch) (n : Nat) (a1 : Int32) (a2 : Int32) (a3 : Int32) (s0 : PH) : Cti 174 l yX12_ahead cX12_ahead 4 (some .int) (rmOf 2 46) (fun E => [.ref (E.2.1 148), .int a1, .int a2, .int a3]) s0 (fX12_ahead n a1 a2 a3 s0) := by
  refine Cti.of (by decide) rfl (lv := fun E => [(0, .ref (E.2.1 148)), (1, .int a1), (2, .int a2), (3, .int a3)]) (fun _ => Nat.le_of_ble_eq_true rfl) (fun _ => rfl) (fun Γ hΓ _ C => ?_)
  subst hΓ
  unfold fX12_ahead
  refine rf_aload_n C dX12_ahead_0 rfl 0 rfl ?_
  refine rf_iload_n C dX12_ahead_1 rfl 1 rfl ?_
  refine rf_callVi C (rmc := rmOf 1 22) [.int a1] (by decide) (mX12_isProduction (gL Γ) a1 s0) mfX12_isProduction mvX12_isProduction mlX12_214 rfl oX12 rfl rfl rfl (Nat.le_of_ble_eq_true rfl) ⟨Nat.le_of_ble_eq_true rfl, Nat.le_of_ble_eq_true rfl⟩ dX12_ahead_2 (fun r2 s1 => ?_)
  refine rf_if_eq C 23 dX12_ahead_5 (by decide) (fun _ => ?_) (fun _ => ?_)
  · refine rf_iconst C (v := (-1 : Int32)) dX12_ahead_23 rfl ?_
    exact rf_iret C dX12_ahead_24
  refine rf_iload_n C dX12_ahead_8 rfl 2 rfl ?_
  refine rf_callSi C (rmc := rmOf 1 22) [.int a2] (by decide) (mX12_isDepth (gL Γ) a2 s1) mfX12_isDepth msX12_isDepth mlX12_223 rfl rfl rfl (Nat.le_of_ble_eq_true rfl) ⟨Nat.le_of_ble_eq_true rfl, Nat.le_of_ble_eq_true rfl⟩ dX12_ahead_9 (fun r4 s3 => ?_)
  refine rf_if_eq C 23 dX12_ahead_12 (by decide) (fun _ => ?_) (fun _ => ?_)
  · refine rf_iconst C (v := (-1 : Int32)) dX12_ahead_23 rfl ?_
    exact rf_iret C dX12_ahead_24
  refine rf_iload_n C dX12_ahead_15 rfl 3 rfl ?_
  refine rf_iload_n C dX12_ahead_16 rfl 2 rfl ?_
  refine rf_callSi C (rmc := rmOf 1 22) [.int a3, .int a2] (by decide) (mX12_isWord (gL Γ) n a3 a2 s3) mfX12_isWord msX12_isWord mlX12_226 rfl rfl rfl (Nat.le_of_ble_eq_true rfl) ⟨Nat.le_of_ble_eq_true rfl, Nat.le_of_ble_eq_true rfl⟩ dX12_ahead_17 (fun r6 s5 => ?_)
  refine rf_if_ne C 25 dX12_ahead_20 (by decide) (fun _ => ?_) (fun _ => ?_)
  · refine rf_aload_n C dX12_ahead_25 rfl 0 rfl ?_
    refine rf_sipush C (v := (nI 2592)) dX12_ahead_26 rfl ?_
    refine rf_sipush C (v := (nI 216)) dX12_ahead_29 rfl ?_
    refine rf_iload_n C dX12_ahead_32 rfl 1 rfl ?_
    refine rf_imul C dX12_ahead_33 ?_
    refine rf_iadd C dX12_ahead_34 ?_
    refine rf_iload_n C dX12_ahead_35 rfl 2 rfl ?_
    refine rf_iload_n C dX12_ahead_36 rfl 3 rfl ?_
    refine rf_callVi C (rmc := rmOf 0 0) [.int ((nI 2592) + ((nI 216) * a1)), .int a2, .int a3] (by decide) (mX12_has (gL Γ) ((nI 2592) + ((nI 216) * a1)) a2 a3 s5) mfX12_has mvX12_has mlX12_182 rfl oX12 rfl rfl rfl (Nat.le_of_ble_eq_true rfl) ⟨Nat.le_of_ble_eq_true rfl, Nat.le_of_ble_eq_true rfl⟩ dX12_ahead_37 (fun r8 s7 => ?_)
    refine rf_if_eq C 47 dX12_ahead_40 (by decide) (fun _ => ?_) (fun _ => ?_)
    · refine rf_iconst C (v := (nI 0)) dX12_ahead_47 rfl ?_
      exact rf_iret C dX12_ahead_48
    refine rf_iconst C (v := (nI 1)) dX12_ahead_43 rfl ?_
    refine rf_goto C 48 dX12_ahead_44 (by decide) ?_
    exact rf_iret C dX12_ahead_48
  refine rf_iconst C (v := (-1 : Int32)) dX12_ahead_23 rfl ?_
  exact rf_iret C dX12_ahead_24

def fX12_count (n : Nat) (a1 : Int32) (a2 : Int32) (s0 : PH) : Option (Int32 × PH) :=
(lt (nI 0) fun (v1 : Int32) =>
(lt (nI 0) fun (v2 : Int32) =>
(loo3 (fun (recrec6 : Int32 → Int32 → PH → Option (Int32 × PH)) (v3 : Int32) (v4 : Int32) (s5 : PH) =>
(if (nI 216) ≤ v4 then
(some (v3, s5))
else
(bd (fX12_has a1 a2 v4 s5) fun (r8 : Int32) (s7 : PH) =>
(jn (fun (v9 : Int32) (s10 : PH) =>
(lt (v3 + v9) fun (v12 : Int32) =>
(lt (v4 + (nI 1)) fun (v13 : Int32) =>
(recrec6 v12 v13 s10)))) (fun (j11 : Int32 → PH → Option (Int32 × PH)) =>
(if r8 = 0 then
(j11 (nI 0) s7)
else
(j11 (nI 1) s7))))))) n v1 v2 s0)))
set_option maxRecDepth 20000 in
set_option maxHeartbeats 2000000 in
theorem mX12_count (l : Launch) (n : Nat) (a1 : Int32) (a2 : Int32) (s0 : PH) : Cti 174 l yX12_count cX12_count 5 (some .int) (rmOf 1 23) (fun E => [.ref (E.2.1 148), .int a1, .int a2]) s0 (fX12_count n a1 a2 s0) := by
  refine Cti.of (by decide) rfl (lv := fun E => [(0, .ref (E.2.1 148)), (1, .int a1), (2, .int a2)]) (fun _ => Nat.le_of_ble_eq_true rfl) (fun _ => rfl) (fun Γ hΓ _ C => ?_)
  subst hΓ
  unfold fX12_count
  refine rf_iconst C (v := (nI 0)) dX12_count_0 rfl ?_
  refine rf_istore_n C (fun v1 => [(3, .int v1), (0, .ref ((gE Γ).2.1 148)), (1, .int a1), (2, .int a2)]) dX12_count_1 rfl (by decide) (fun _ => rfl) (fun v1 => ?_)
  refine rf_iconst C (v := (nI 0)) dX12_count_2 rfl ?_
  refine rf_istore C (fun v2 => [(4, .int v2), (3, .int v1), (0, .ref ((gE Γ).2.1 148)), (1, .int a1), (2, .int a2)]) dX12_count_3 (by decide) (fun _ => rfl) (fun v2 => ?_)
  refine rf_sub [2, 3, 4, 1, 0] rfl ?_
  refine rf_loo3 (fun _ _ _ => True) (fun _ _ s5 => s5) (fun v3 v4 s5 => [(0, .ref ((gE Γ).2.1 148)), (1, .int a1), (2, .int a2), (3, .int v3), (4, .int v4)]) (fun recrec6 hrec6 v3 v4 s5 _ => ?_) n v1 v2 s0 trivial
  refine rf_iload C dX12_count_5 4 rfl ?_
  refine rf_sipush C (v := (nI 216)) dX12_count_7 rfl ?_
  refine rf_icmp_ge C 38 dX12_count_10 (by decide) (fun _ => ?_) (fun _ => ?_)
  · refine rf_iload_n C dX12_count_38 rfl 3 rfl ?_
    exact rf_iret C dX12_count_39
  refine rf_iload_n C dX12_count_13 rfl 3 rfl ?_
  refine rf_aload_n C dX12_count_14 rfl 0 rfl ?_
  refine rf_iload_n C dX12_count_15 rfl 1 rfl ?_
  refine rf_iload_n C dX12_count_16 rfl 2 rfl ?_
  refine rf_iload C dX12_count_17 4 rfl ?_
  refine rf_callVi C (rmc := rmOf 0 0) [.int a1, .int a2, .int v4] (by decide) (mX12_has (gL Γ) a1 a2 v4 s5) mfX12_has mvX12_has mlX12_182 rfl oX12 rfl rfl rfl (Nat.le_of_ble_eq_true rfl) ⟨Nat.le_of_ble_eq_true rfl, Nat.le_of_ble_eq_true rfl⟩ dX12_count_19 (fun r8 s7 => ?_)
  refine rf_jn2 (fun _ _ => True) (fun _ s10 => s10) (fun v9 s10 => [(0, .ref ((gE Γ).2.1 148)), (1, .int a1), (2, .int a2), (4, .int v4)]) (fun v9 s10 => [.int v9, .int v3]) 30 (fun v9 s10 _ => ?_) (fun j11 hj11 => ?_)
  · refine rf_iadd C dX12_count_30 ?_
    refine rf_istore_n C (fun v12 => [(3, .int v12), (0, .ref ((gE Γ).2.1 148)), (1, .int a1), (2, .int a2), (4, .int v4)]) dX12_count_31 rfl (by decide) (fun _ => rfl) (fun v12 => ?_)
    refine rf_iinc C (fun v13 => [(4, .int v13), (3, .int v12), (0, .ref ((gE Γ).2.1 148)), (1, .int a1), (2, .int a2)]) dX12_count_32 4 rfl rfl (by decide) (fun _ => rfl) (fun v13 => ?_)
    refine rf_goto C 5 dX12_count_35 (by decide) ?_
    exact rf_sub [2, 3, 4, 1, 0] rfl (hrec6 v12 v13 s10 trivial)
  refine rf_if_eq C 29 dX12_count_22 (by decide) (fun _ => ?_) (fun _ => ?_)
  · refine rf_iconst C (v := (nI 0)) dX12_count_29 rfl ?_
    exact rf_sub [0, 1, 2, 4] rfl (hj11 (nI 0) s7 trivial)
  refine rf_iconst C (v := (nI 1)) dX12_count_25 rfl ?_
  refine rf_goto C 30 dX12_count_26 (by decide) ?_
  exact rf_sub [0, 1, 2, 4] rfl (hj11 (nI 1) s7 trivial)

def fX12_words (n : Nat) (a1 : Int32) (a2 : Int32) (a3 : Int32) (s0 : PH) : Option (Int32 × PH) :=
(bd (fX12_in a1 (nI 0) (nI 2) s0) fun (r2 : Int32) (s1 : PH) =>
(if r2 = 0 then
(some ((-1 : Int32), s1))
else
(bd (fX12_isDepth a3 s1) fun (r4 : Int32) (s3 : PH) =>
(if r4 = 0 then
(some ((-1 : Int32), s3))
else
(jn (fun (s5 : PH) =>
(if a1 = 0 then
(bd (fX12_count n ((nI 216) * a2) a3 s5) fun (r12 : Int32) (s11 : PH) =>
(some (r12, s11)))
else
(if a1 = (nI 1) then
(bd (fX12_count n ((nI 1296) + ((nI 216) * a2)) a3 s5) fun (r10 : Int32) (s9 : PH) =>
(some (r10, s9)))
else
(bd (fX12_count n ((nI 2592) + ((nI 216) * a2)) a3 s5) fun (r8 : Int32) (s7 : PH) =>
(some (r8, s7)))))) (fun (j6 : PH → Option (Int32 × PH)) =>
(if a1 = (nI 2) then
(bd (fX12_isProduction a2 s3) fun (r16 : Int32) (s15 : PH) =>
(if r16 = 0 then
(some ((-1 : Int32), s15))
else
(j6 s15)))
else
(bd (fX12_isDefined n a2 s3) fun (r14 : Int32) (s13 : PH) =>
(if r14 = 0 then
(some ((-1 : Int32), s13))
else
(j6 s13))))))))))
set_option maxRecDepth 20000 in
set_option maxHeartbeats 2000000 in
theorem mX12_words (l : Launch) (n : Nat) (a1 : Int32) (a2 : Int32) (a3 : Int32) (s0 : PH) : Cti 174 l yX12_words cX12_words 4 (some .int) (rmOf 3 65) (fun E => [.ref (E.2.1 148), .int a1, .int a2, .int a3]) s0 (fX12_words n a1 a2 a3 s0) := by
  refine Cti.of (by decide) rfl (lv := fun E => [(0, .ref (E.2.1 148)), (1, .int a1), (2, .int a2), (3, .int a3)]) (fun _ => Nat.le_of_ble_eq_true rfl) (fun _ => rfl) (fun Γ hΓ _ C => ?_)
  subst hΓ
  unfold fX12_words
  refine rf_iload_n C dX12_words_0 rfl 1 rfl ?_
  refine rf_iconst C (v := (nI 0)) dX12_words_1 rfl ?_
  refine rf_iconst C (v := (nI 2)) dX12_words_2 rfl ?_
  refine rf_callSi C (rmc := rmOf 0 0) [.int a1, .int (nI 0), .int (nI 2)] (by decide) (mX12_in (gL Γ) a1 (nI 0) (nI 2) s0) mfX12_in msX12_in mlX12_98 rfl rfl rfl (Nat.le_of_ble_eq_true rfl) ⟨Nat.le_of_ble_eq_true rfl, Nat.le_of_ble_eq_true rfl⟩ dX12_words_3 (fun r2 s1 => ?_)
  refine rf_if_eq C 40 dX12_words_6 (by decide) (fun _ => ?_) (fun _ => ?_)
  · refine rf_iconst C (v := (-1 : Int32)) dX12_words_40 rfl ?_
    exact rf_iret C dX12_words_41
  refine rf_iload_n C dX12_words_9 rfl 3 rfl ?_
  refine rf_callSi C (rmc := rmOf 1 22) [.int a3] (by decide) (mX12_isDepth (gL Γ) a3 s1) mfX12_isDepth msX12_isDepth mlX12_223 rfl rfl rfl (Nat.le_of_ble_eq_true rfl) ⟨Nat.le_of_ble_eq_true rfl, Nat.le_of_ble_eq_true rfl⟩ dX12_words_10 (fun r4 s3 => ?_)
  refine rf_if_eq C 40 dX12_words_13 (by decide) (fun _ => ?_) (fun _ => ?_)
  · refine rf_iconst C (v := (-1 : Int32)) dX12_words_40 rfl ?_
    exact rf_iret C dX12_words_41
  refine rf_iload_n C dX12_words_16 rfl 1 rfl ?_
  refine rf_iconst C (v := (nI 2)) dX12_words_17 rfl ?_
  refine rf_jn1 (fun _ => True) (fun  s5 => s5) (fun s5 => [(0, .ref ((gE Γ).2.1 148)), (1, .int a1), (2, .int a2), (3, .int a3)]) (fun s5 => []) 42 (fun s5 _ => ?_) (fun j6 hj6 => ?_)
  · refine rf_iload_n C dX12_words_42 rfl 1 rfl ?_
    refine rf_if_ne C 59 dX12_words_43 (by decide) (fun _ => ?_) (fun _ => ?_)
    · refine rf_iload_n C dX12_words_59 rfl 1 rfl ?_
      refine rf_iconst C (v := (nI 1)) dX12_words_60 rfl ?_
      refine rf_icmp_ne C 81 dX12_words_61 (by decide) (fun _ => ?_) (fun _ => ?_)
      · refine rf_aload_n C dX12_words_81 rfl 0 rfl ?_
        refine rf_sipush C (v := (nI 2592)) dX12_words_82 rfl ?_
        refine rf_sipush C (v := (nI 216)) dX12_words_85 rfl ?_
        refine rf_iload_n C dX12_words_88 rfl 2 rfl ?_
        refine rf_imul C dX12_words_89 ?_
        refine rf_iadd C dX12_words_90 ?_
        refine rf_iload_n C dX12_words_91 rfl 3 rfl ?_
        refine rf_callVi C (rmc := rmOf 1 23) [.int ((nI 2592) + ((nI 216) * a2)), .int a3] (by decide) (mX12_count (gL Γ) n ((nI 2592) + ((nI 216) * a2)) a3 s5) mfX12_count mvX12_count mlX12_229 rfl oX12 rfl rfl rfl (Nat.le_of_ble_eq_true rfl) ⟨Nat.le_of_ble_eq_true rfl, Nat.le_of_ble_eq_true rfl⟩ dX12_words_92 (fun r8 s7 => ?_)
        exact rf_iret C dX12_words_95
      refine rf_aload_n C dX12_words_64 rfl 0 rfl ?_
      refine rf_sipush C (v := (nI 1296)) dX12_words_65 rfl ?_
      refine rf_sipush C (v := (nI 216)) dX12_words_68 rfl ?_
      refine rf_iload_n C dX12_words_71 rfl 2 rfl ?_
      refine rf_imul C dX12_words_72 ?_
      refine rf_iadd C dX12_words_73 ?_
      refine rf_iload_n C dX12_words_74 rfl 3 rfl ?_
      refine rf_callVi C (rmc := rmOf 1 23) [.int ((nI 1296) + ((nI 216) * a2)), .int a3] (by decide) (mX12_count (gL Γ) n ((nI 1296) + ((nI 216) * a2)) a3 s5) mfX12_count mvX12_count mlX12_229 rfl oX12 rfl rfl rfl (Nat.le_of_ble_eq_true rfl) ⟨Nat.le_of_ble_eq_true rfl, Nat.le_of_ble_eq_true rfl⟩ dX12_words_75 (fun r10 s9 => ?_)
      refine rf_goto C 95 dX12_words_78 (by decide) ?_
      exact rf_iret C dX12_words_95
    refine rf_aload_n C dX12_words_46 rfl 0 rfl ?_
    refine rf_sipush C (v := (nI 216)) dX12_words_47 rfl ?_
    refine rf_iload_n C dX12_words_50 rfl 2 rfl ?_
    refine rf_imul C dX12_words_51 ?_
    refine rf_iload_n C dX12_words_52 rfl 3 rfl ?_
    refine rf_callVi C (rmc := rmOf 1 23) [.int ((nI 216) * a2), .int a3] (by decide) (mX12_count (gL Γ) n ((nI 216) * a2) a3 s5) mfX12_count mvX12_count mlX12_229 rfl oX12 rfl rfl rfl (Nat.le_of_ble_eq_true rfl) ⟨Nat.le_of_ble_eq_true rfl, Nat.le_of_ble_eq_true rfl⟩ dX12_words_53 (fun r12 s11 => ?_)
    refine rf_goto C 95 dX12_words_56 (by decide) ?_
    exact rf_iret C dX12_words_95
  refine rf_icmp_ne C 32 dX12_words_18 (by decide) (fun _ => ?_) (fun _ => ?_)
  · refine rf_aload_n C dX12_words_32 rfl 0 rfl ?_
    refine rf_iload_n C dX12_words_33 rfl 2 rfl ?_
    refine rf_callVi C (rmc := rmOf 2 44) [.int a2] (by decide) (mX12_isDefined (gL Γ) n a2 s3) mfX12_isDefined mvX12_isDefined mlX12_217 rfl oX12 rfl rfl rfl (Nat.le_of_ble_eq_true rfl) ⟨Nat.le_of_ble_eq_true rfl, Nat.le_of_ble_eq_true rfl⟩ dX12_words_34 (fun r14 s13 => ?_)
    refine rf_if_ne C 42 dX12_words_37 (by decide) (fun _ => ?_) (fun _ => ?_)
    · exact rf_sub [0, 1, 2, 3] rfl (hj6 s13 trivial)
    refine rf_iconst C (v := (-1 : Int32)) dX12_words_40 rfl ?_
    exact rf_iret C dX12_words_41
  refine rf_aload_n C dX12_words_21 rfl 0 rfl ?_
  refine rf_iload_n C dX12_words_22 rfl 2 rfl ?_
  refine rf_callVi C (rmc := rmOf 1 22) [.int a2] (by decide) (mX12_isProduction (gL Γ) a2 s3) mfX12_isProduction mvX12_isProduction mlX12_214 rfl oX12 rfl rfl rfl (Nat.le_of_ble_eq_true rfl) ⟨Nat.le_of_ble_eq_true rfl, Nat.le_of_ble_eq_true rfl⟩ dX12_words_23 (fun r16 s15 => ?_)
  refine rf_if_eq C 40 dX12_words_26 (by decide) (fun _ => ?_) (fun _ => ?_)
  · refine rf_iconst C (v := (-1 : Int32)) dX12_words_40 rfl ?_
    exact rf_iret C dX12_words_41
  refine rf_goto C 42 dX12_words_29 (by decide) ?_
  exact rf_sub [0, 1, 2, 3] rfl (hj6 s15 trivial)

