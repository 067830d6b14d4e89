def fX1_waysOf (n : Nat) (t : Nat) (a1 : Nat) (a3 : Int32) (a4 : Int32) (a5 : Int32) (s0 : PH) : Option (Int32 × PH) :=
(bd (fX9_tail a3 (nI 0) s0) fun (r2 : Int32) (s1 : PH) =>
(lt ((a5 - a4) - r2) fun (v3 : Int32) =>
(lt a4 fun (v4 : Int32) =>
(lt a4 fun (v5 : Int32) =>
(loo2 (fun (recrec8 : Int32 → PH → Option (Int32 × PH)) (v6 : Int32) (s7 : PH) =>
(if (a4 + v3) < v6 then
(bd (fX4_length a1 a3 s7) fun (r10 : Int32) (s9 : PH) =>
(lt r10 fun (v11 : Int32) =>
(lt (nI 0) fun (v12 : Int32) =>
(loo3 (fun (recrec16 : Int32 → Int32 → PH → Option (Int32 × PH)) (v13 : Int32) (v14 : Int32) (s15 : PH) =>
(if v11 ≤ v14 then
(ra 9 a5 (s15.1 (cId t 4)) fun (v17 : Int32) =>
(some (v17, s15)))
else
(bd (fX4_symbolAt a1 a3 v14 s15) fun (r19 : Int32) (s18 : PH) =>
(lt r19 fun (v20 : Int32) =>
(bd (fX9_tail a3 v14 s18) fun (r22 : Int32) (s21 : PH) =>
(bd (fX9_tail a3 (v14 + (nI 1)) s21) fun (r24 : Int32) (s23 : PH) =>
(lt ((v13 + r22) - r24) fun (v25 : Int32) =>
(bd (fX11_isLetter v20 s23) fun (r27 : Int32) (s26 : PH) =>
(jn (fun (s28 : PH) =>
(lt v25 fun (v30 : Int32) =>
(lt (v14 + (nI 1)) fun (v31 : Int32) =>
(recrec16 v30 v31 s28)))) (fun (j29 : PH → Option (Int32 × PH)) =>
(if r27 = 0 then
(jn (fun (v32 : Int32) (s33 : PH) =>
(lt v32 fun (v35 : Int32) =>
(bd (fX1_passNonterminal n t (v20 - (nI 10)) v13 (v13 + v3) v35 (v25 + v3) s33) fun _ (s36 : PH) =>
(j29 s36)))) (fun (j34 : Int32 → PH → Option (Int32 × PH)) =>
(if v14 = (v11 - (nI 1)) then
(j34 a5 s26)
else
(j34 v25 s26))))
else
(bd (fX1_passLetter n t v20 v13 v3 s26) fun _ (s37 : PH) =>
(j29 s37))))))))))))) n v4 v12 s9))))
else
(jn (fun (v38 : Int32) (s39 : PH) =>
(wa 9 v6 (lt (si s39 (cId t 4) v6.toNatClampNeg v38) fun (s41 : PH) =>
(lt (v6 + (nI 1)) fun (v42 : Int32) =>
(recrec8 v42 s41))))) (fun (j40 : Int32 → PH → Option (Int32 × PH)) =>
(if v6 = a4 then
(j40 (nI 1) s7)
else
(j40 (nI 0) s7)))))) n v5 s1)))))
set_option maxRecDepth 20000 in
set_option maxHeartbeats 2000000 in
theorem mX1_waysOf (l : Launch) (n : Nat) (t : Nat) (a1 : Nat) (a3 : Int32) (a4 : Int32) (a5 : Int32) (s0 : PH) (ht : t < 2) (ha1 : a1 < 6) : Cti 148 l yX1_waysOf cX1_waysOf 13 (some .int) (rmOf 2 52) (fun E => [.ref (E.2.1 (cId t 0)), .ref (E.2.1 (gId a1 0)), .ref (E.2.1 7), .int a3, .int a4, .int a5]) s0 (fX1_waysOf n t a1 a3 a4 a5 s0) := by
  refine Cti.of (by decide) rfl (lv := fun E => [(0, .ref (E.2.1 (cId t 0))), (1, .ref (E.2.1 (gId a1 0))), (2, .ref (E.2.1 7)), (3, .int a3), (4, .int a4), (5, .int a5)]) (fun _ => Nat.le_of_ble_eq_true rfl) (fun _ => rfl) (fun Γ hΓ _ C => ?_)
  subst hΓ
  unfold fX1_waysOf
  refine rf_iload C dX1_waysOf_0 5 rfl ?_
  refine rf_iload C dX1_waysOf_2 4 rfl ?_
  refine rf_isub C dX1_waysOf_4 ?_
  refine rf_aload_n C dX1_waysOf_5 rfl 2 rfl ?_
  refine rf_iload_n C dX1_waysOf_6 rfl 3 rfl ?_
  refine rf_iconst C (v := (nI 0)) dX1_waysOf_7 rfl ?_
  refine rf_callVi C (rmc := rmOf 0 0) [.int a3, .int (nI 0)] (by decide) (mX9_tail (gL Γ) a3 (nI 0) s0) mfX9_tail mvX9_tail mlX1_48 rfl oX9 rfl rfl rfl (Nat.le_of_ble_eq_true rfl) ⟨Nat.le_of_ble_eq_true rfl, Nat.le_of_ble_eq_true rfl⟩ dX1_waysOf_8 (fun r2 s1 => ?_)
  refine rf_isub C dX1_waysOf_11 ?_
  refine rf_istore C (fun v3 => [(6, .int v3), (0, .ref ((gE Γ).2.1 (cId t 0))), (1, .ref ((gE Γ).2.1 (gId a1 0))), (2, .ref ((gE Γ).2.1 7)), (3, .int a3), (4, .int a4), (5, .int a5)]) dX1_waysOf_12 (by decide) (fun _ => rfl) (fun v3 => ?_)
  refine rf_iload C dX1_waysOf_14 5 rfl ?_
  refine rf_istore C (fun v4 => [(7, .int v4), (6, .int v3), (0, .ref ((gE Γ).2.1 (cId t 0))), (1, .ref ((gE Γ).2.1 (gId a1 0))), (2, .ref ((gE Γ).2.1 7)), (3, .int a3), (4, .int a4), (5, .int a5)]) dX1_waysOf_16 (by decide) (fun _ => rfl) (fun v4 => ?_)
  refine rf_iload C dX1_waysOf_18 6 rfl ?_
  refine rf_istore C (fun v5 => [(8, .int v5), (7, .int v4), (6, .int v3), (0, .ref ((gE Γ).2.1 (cId t 0))), (1, .ref ((gE Γ).2.1 (gId a1 0))), (2, .ref ((gE Γ).2.1 7)), (3, .int a3), (4, .int a4), (5, .int a5)]) dX1_waysOf_20 (by decide) (fun _ => rfl) (fun v5 => ?_)
  refine rf_sub [3, 4, 5, 6, 7, 8, 2, 1, 0] rfl ?_
  refine rf_loo2 (fun _ _ => True) (fun _ s7 => s7) (fun v6 s7 => [(0, .ref ((gE Γ).2.1 (cId t 0))), (1, .ref ((gE Γ).2.1 (gId a1 0))), (2, .ref ((gE Γ).2.1 7)), (3, .int a3), (4, .int a4), (5, .int a5), (6, .int v3), (7, .int v4), (8, .int v6)]) (fun recrec8 hrec8 v6 s7 _ => ?_) n v5 s1 trivial
  refine rf_iload C dX1_waysOf_22 8 rfl ?_
  refine rf_iload C dX1_waysOf_24 4 rfl ?_
  refine rf_iload C dX1_waysOf_26 6 rfl ?_
  refine rf_iadd C dX1_waysOf_28 ?_
  refine rf_icmp_gt C 57 dX1_waysOf_29 (by decide) (fun _ => ?_) (fun _ => ?_)
  · refine rf_aload_n C dX1_waysOf_57 rfl 1 rfl ?_
    refine rf_iload_n C dX1_waysOf_58 rfl 3 rfl ?_
    refine rf_callVi C (rmc := rmOf 0 0) [.int a3] (by decide) (mX4_length (gL Γ) a1 a3 s7 ha1) mfX4_length mvX4_length mlX1_61 rfl (oX4 ha1) rfl rfl rfl (Nat.le_of_ble_eq_true rfl) ⟨Nat.le_of_ble_eq_true rfl, Nat.le_of_ble_eq_true rfl⟩ dX1_waysOf_59 (fun r10 s9 => ?_)
    refine rf_istore C (fun v11 => [(8, .int v11), (0, .ref ((gE Γ).2.1 (cId t 0))), (1, .ref ((gE Γ).2.1 (gId a1 0))), (2, .ref ((gE Γ).2.1 7)), (3, .int a3), (4, .int a4), (5, .int a5), (6, .int v3), (7, .int v4)]) dX1_waysOf_62 (by decide) (fun _ => rfl) (fun v11 => ?_)
    refine rf_iconst C (v := (nI 0)) dX1_waysOf_64 rfl ?_
    refine rf_istore C (fun v12 => [(9, .int v12), (8, .int v11), (0, .ref ((gE Γ).2.1 (cId t 0))), (1, .ref ((gE Γ).2.1 (gId a1 0))), (2, .ref ((gE Γ).2.1 7)), (3, .int a3), (4, .int a4), (5, .int a5), (6, .int v3), (7, .int v4)]) dX1_waysOf_65 (by decide) (fun _ => rfl) (fun v12 => ?_)
    refine rf_sub [2, 3, 4, 5, 7, 8, 9, 1, 0] rfl ?_
    refine rf_loo3 (fun _ _ _ => True) (fun _ _ s15 => s15) (fun v13 v14 s15 => [(0, .ref ((gE Γ).2.1 (cId t 0))), (1, .ref ((gE Γ).2.1 (gId a1 0))), (2, .ref ((gE Γ).2.1 7)), (3, .int a3), (5, .int a5), (6, .int v3), (7, .int v13), (8, .int v11), (9, .int v14)]) (fun recrec16 hrec16 v13 v14 s15 _ => ?_) n v4 v12 s9 trivial
    refine rf_iload C dX1_waysOf_67 8 rfl ?_
    refine rf_iload C dX1_waysOf_69 7 rfl ?_
    refine rf_icmp_ge C 177 dX1_waysOf_71 (by decide) (fun _ => ?_) (fun _ => ?_)
    · refine rf_aload_n C dX1_waysOf_177 rfl 0 rfl ?_
      refine rf_get C (v := .ref ((gE Γ).2.1 (cId t 4))) cfX1 flX1_18 (by decide) (oX1 ht) rfl dX1_waysOf_178 ?_
      refine rf_iload C dX1_waysOf_181 4 rfl ?_
      refine rf_iald C (arC4 ht) dX1_waysOf_183 (fun v17 => ?_)
      exact rf_iret C dX1_waysOf_184
    refine rf_aload_n C dX1_waysOf_74 rfl 1 rfl ?_
    refine rf_iload_n C dX1_waysOf_75 rfl 3 rfl ?_
    refine rf_iload C dX1_waysOf_76 8 rfl ?_
    refine rf_callVi C (rmc := rmOf 0 0) [.int a3, .int v14] (by decide) (mX4_symbolAt (gL Γ) a1 a3 v14 s15 ha1) mfX4_symbolAt mvX4_symbolAt mlX1_64 rfl (oX4 ha1) rfl rfl rfl (Nat.le_of_ble_eq_true rfl) ⟨Nat.le_of_ble_eq_true rfl, Nat.le_of_ble_eq_true rfl⟩ dX1_waysOf_78 (fun r19 s18 => ?_)
    refine rf_istore C (fun v20 => [(10, .int v20), (0, .ref ((gE Γ).2.1 (cId t 0))), (1, .ref ((gE Γ).2.1 (gId a1 0))), (2, .ref ((gE Γ).2.1 7)), (3, .int a3), (5, .int a5), (6, .int v3), (7, .int v13), (8, .int v11), (9, .int v14)]) dX1_waysOf_81 (by decide) (fun _ => rfl) (fun v20 => ?_)
    refine rf_iload C dX1_waysOf_83 7 rfl ?_
    refine rf_aload_n C dX1_waysOf_85 rfl 3 rfl ?_
    refine rf_iload_n C dX1_waysOf_86 rfl 4 rfl ?_
    refine rf_iload C dX1_waysOf_87 9 rfl ?_
    refine rf_callVi C (rmc := rmOf 0 0) [.int a3, .int v14] (by decide) (mX9_tail (gL Γ) a3 v14 s18) mfX9_tail mvX9_tail mlX1_48 rfl oX9 rfl rfl rfl (Nat.le_of_ble_eq_true rfl) ⟨Nat.le_of_ble_eq_true rfl, Nat.le_of_ble_eq_true rfl⟩ dX1_waysOf_89 (fun r22 s21 => ?_)
    refine rf_iadd C dX1_waysOf_92 ?_
    refine rf_aload_n C dX1_waysOf_93 rfl 3 rfl ?_
    refine rf_iload_n C dX1_waysOf_94 rfl 4 rfl ?_
    refine rf_iload C dX1_waysOf_95 9 rfl ?_
    refine rf_iconst C (v := (nI 1)) dX1_waysOf_97 rfl ?_
    refine rf_iadd C dX1_waysOf_98 ?_
    refine rf_callVi C (rmc := rmOf 0 0) [.int a3, .int (v14 + (nI 1))] (by decide) (mX9_tail (gL Γ) a3 (v14 + (nI 1)) s21) mfX9_tail mvX9_tail mlX1_48 rfl oX9 rfl rfl rfl (Nat.le_of_ble_eq_true rfl) ⟨Nat.le_of_ble_eq_true rfl, Nat.le_of_ble_eq_true rfl⟩ dX1_waysOf_99 (fun r24 s23 => ?_)
    refine rf_isub C dX1_waysOf_102 ?_
    refine rf_istore C (fun v25 => [(11, .int v25), (10, .int v20), (0, .ref ((gE Γ).2.1 (cId t 0))), (1, .ref ((gE Γ).2.1 (gId a1 0))), (2, .ref ((gE Γ).2.1 7)), (3, .int a3), (5, .int a5), (6, .int v3), (7, .int v13), (8, .int v11), (9, .int v14)]) dX1_waysOf_103 (by decide) (fun _ => rfl) (fun v25 => ?_)
    refine rf_iload C dX1_waysOf_105 1 rfl ?_
    refine rf_callSNi C (rmc := rmOf 0 0) [.int v20] (by decide) (mX11_isLetter (gL Γ) v20 s23) mfX11_isLetter msX11_isLetter (by decide) rfl rfl rfl (Nat.le_of_ble_eq_true rfl) ⟨Nat.le_of_ble_eq_true rfl, Nat.le_of_ble_eq_true rfl⟩ dX1_waysOf_107 (fun r27 s26 => ?_)
    refine rf_jn1 (fun _ => True) (fun  s28 => s28) (fun s28 => [(0, .ref ((gE Γ).2.1 (cId t 0))), (1, .ref ((gE Γ).2.1 (gId a1 0))), (2, .ref ((gE Γ).2.1 7)), (3, .int a3), (5, .int a5), (6, .int v3), (8, .int v11), (9, .int v14), (11, .int v25)]) (fun s28 => []) 167 (fun s28 _ => ?_) (fun j29 hj29 => ?_)
    · refine rf_iload C dX1_waysOf_167 8 rfl ?_
      refine rf_istore C (fun v30 => [(7, .int v30), (0, .ref ((gE Γ).2.1 (cId t 0))), (1, .ref ((gE Γ).2.1 (gId a1 0))), (2, .ref ((gE Γ).2.1 7)), (3, .int a3), (5, .int a5), (6, .int v3), (8, .int v11), (9, .int v14), (11, .int v25)]) dX1_waysOf_169 (by decide) (fun _ => rfl) (fun v30 => ?_)
      refine rf_iinc C (fun v31 => [(9, .int v31), (7, .int v30), (0, .ref ((gE Γ).2.1 (cId t 0))), (1, .ref ((gE Γ).2.1 (gId a1 0))), (2, .ref ((gE Γ).2.1 7)), (3, .int a3), (5, .int a5), (6, .int v3), (8, .int v11), (11, .int v25)]) dX1_waysOf_171 8 rfl rfl (by decide) (fun _ => rfl) (fun v31 => ?_)
      refine rf_goto C 67 dX1_waysOf_174 (by decide) ?_
      exact rf_sub [2, 3, 4, 5, 6, 7, 1, 8, 0] rfl (hrec16 v30 v31 s28 trivial)
    refine rf_if_eq C 126 dX1_waysOf_110 (by decide) (fun _ => ?_) (fun _ => ?_)
    · refine rf_iload C dX1_waysOf_126 10 rfl ?_
      refine rf_iload C dX1_waysOf_128 9 rfl ?_
      refine rf_iconst C (v := (nI 1)) dX1_waysOf_130 rfl ?_
      refine rf_isub C dX1_waysOf_131 ?_
      refine rf_jn2 (fun _ _ => True) (fun _ s33 => s33) (fun v32 s33 => [(0, .ref ((gE Γ).2.1 (cId t 0))), (1, .ref ((gE Γ).2.1 (gId a1 0))), (2, .ref ((gE Γ).2.1 7)), (3, .int a3), (5, .int a5), (6, .int v3), (7, .int v13), (8, .int v11), (9, .int v14), (10, .int v20), (11, .int v25)]) (fun v32 s33 => [.int v32]) 142 (fun v32 s33 _ => ?_) (fun j34 hj34 => ?_)
      · refine rf_istore C (fun v35 => [(12, .int v35), (0, .ref ((gE Γ).2.1 (cId t 0))), (1, .ref ((gE Γ).2.1 (gId a1 0))), (2, .ref ((gE Γ).2.1 7)), (3, .int a3), (5, .int a5), (6, .int v3), (7, .int v13), (8, .int v11), (9, .int v14), (10, .int v20), (11, .int v25)]) dX1_waysOf_142 (by decide) (fun _ => rfl) (fun v35 => ?_)
        refine rf_aload_n C dX1_waysOf_144 rfl 1 rfl ?_
        refine rf_iload C dX1_waysOf_145 10 rfl ?_
        refine rf_bipush C (v := (nI 10)) dX1_waysOf_147 rfl ?_
        refine rf_isub C dX1_waysOf_149 ?_
        refine rf_iload C dX1_waysOf_150 7 rfl ?_
        refine rf_iload C dX1_waysOf_152 7 rfl ?_
        refine rf_iload C dX1_waysOf_154 6 rfl ?_
        refine rf_iadd C dX1_waysOf_156 ?_
        refine rf_iload C dX1_waysOf_157 0 rfl ?_
        refine rf_iload C dX1_waysOf_159 11 rfl ?_
        refine rf_iload C dX1_waysOf_161 6 rfl ?_
        refine rf_iadd C dX1_waysOf_163 ?_
        refine rf_callVv C (rmc := rmOf 1 23) [.int (v20 - (nI 10)), .int v13, .int (v13 + v3), .int v35, .int (v25 + v3)] (by decide) (mX1_passNonterminal (gL Γ) n t (v20 - (nI 10)) v13 (v13 + v3) v35 (v25 + v3) s33 ht) mfX1_passNonterminal mvX1_passNonterminal mlX1_75 rfl (oX1 ht) rfl rfl rfl (Nat.le_of_ble_eq_true rfl) ⟨Nat.le_of_ble_eq_true rfl, Nat.le_of_ble_eq_true rfl⟩ dX1_waysOf_164 (fun s36 => ?_)
        exact rf_sub [1, 2, 3, 4, 5, 6, 8, 9, 11] rfl (hj29 s36 trivial)
      refine rf_icmp_ne C 140 dX1_waysOf_132 (by decide) (fun _ => ?_) (fun _ => ?_)
      · refine rf_iload C dX1_waysOf_140 0 rfl ?_
        exact rf_sub [2, 3, 4, 5, 6, 7, 8, 9, 10, 1, 0] rfl (hj34 v25 s26 trivial)
      refine rf_iload C dX1_waysOf_135 6 rfl ?_
      refine rf_goto C 142 dX1_waysOf_137 (by decide) ?_
      exact rf_sub [2, 3, 4, 5, 6, 7, 8, 9, 10, 1, 0] rfl (hj34 a5 s26 trivial)
    refine rf_aload_n C dX1_waysOf_113 rfl 2 rfl ?_
    refine rf_iload C dX1_waysOf_114 1 rfl ?_
    refine rf_iload C dX1_waysOf_116 8 rfl ?_
    refine rf_iload C dX1_waysOf_118 7 rfl ?_
    refine rf_callVv C (rmc := rmOf 0 0) [.int v20, .int v13, .int v3] (by decide) (mX1_passLetter (gL Γ) n t v20 v13 v3 s26 ht) mfX1_passLetter mvX1_passLetter mlX1_71 rfl (oX1 ht) rfl rfl rfl (Nat.le_of_ble_eq_true rfl) ⟨Nat.le_of_ble_eq_true rfl, Nat.le_of_ble_eq_true rfl⟩ dX1_waysOf_120 (fun s37 => ?_)
    refine rf_goto C 167 dX1_waysOf_123 (by decide) ?_
    exact rf_sub [2, 3, 4, 5, 6, 7, 9, 10, 0] rfl (hj29 s37 trivial)
  refine rf_aload_n C dX1_waysOf_32 rfl 0 rfl ?_
  refine rf_get C (v := .ref ((gE Γ).2.1 (cId t 4))) cfX1 flX1_18 (by decide) (oX1 ht) rfl dX1_waysOf_33 ?_
  refine rf_iload C dX1_waysOf_36 8 rfl ?_
  refine rf_iload C dX1_waysOf_38 8 rfl ?_
  refine rf_iload C dX1_waysOf_40 4 rfl ?_
  refine rf_jn2 (fun _ _ => True) (fun _ s39 => s39) (fun v38 s39 => [(0, .ref ((gE Γ).2.1 (cId t 0))), (1, .ref ((gE Γ).2.1 (gId a1 0))), (2, .ref ((gE Γ).2.1 7)), (3, .int a3), (4, .int a4), (5, .int a5), (6, .int v3), (7, .int v4), (8, .int v6)]) (fun v38 s39 => [.int v38, .int v6, .ref ((gE Γ).2.1 (cId t 4))]) 50 (fun v38 s39 _ => ?_) (fun j40 hj40 => ?_)
  · refine rf_iast C (arC4 ht) dX1_waysOf_50 (fun s41 => ?_)
    refine rf_iinc C (fun v42 => [(8, .int v42), (0, .ref ((gE Γ).2.1 (cId t 0))), (1, .ref ((gE Γ).2.1 (gId a1 0))), (2, .ref ((gE Γ).2.1 7)), (3, .int a3), (4, .int a4), (5, .int a5), (6, .int v3), (7, .int v4)]) dX1_waysOf_51 8 rfl rfl (by decide) (fun _ => rfl) (fun v42 => ?_)
    refine rf_goto C 22 dX1_waysOf_54 (by decide) ?_
    exact rf_sub [1, 2, 3, 4, 5, 6, 7, 8, 0] rfl (hrec8 v42 s41 trivial)
  refine rf_icmp_ne C 49 dX1_waysOf_42 (by decide) (fun _ => ?_) (fun _ => ?_)
  · refine rf_iconst C (v := (nI 0)) dX1_waysOf_49 rfl ?_
    exact rf_sub [0, 1, 2, 3, 4, 5, 6, 7, 8] rfl (hj40 (nI 0) s7 trivial)
  refine rf_iconst C (v := (nI 1)) dX1_waysOf_45 rfl ?_
  refine rf_goto C 50 dX1_waysOf_46 (by decide) ?_
  exact rf_sub [0, 1, 2, 3, 4, 5, 6, 7, 8] rfl (hj40 (nI 1) s7 trivial)

def fX1_fill (n : Nat) (t : Nat) (a1 : Nat) (a3 : Int32) (a4 : Int32) (s0 : PH) : Option (Unit × PH) :=
(ra 81 ((a3 * (nI 9)) + a4) (s0.1 (cId t 2)) fun (v1 : Int32) =>
(lt v1 fun (v2 : Int32) =>
(lt (nI 0) fun (v3 : Int32) =>
(loo2 (fun (recrec6 : Int32 → PH → Option (Unit × PH)) (v4 : Int32) (s5 : PH) =>
(if (nI 6) ≤ v4 then
(lt (nI 0) fun (v7 : Int32) =>
(loo2 (fun (recrec10 : Int32 → PH → Option (Unit × PH)) (v8 : Int32) (s9 : PH) =>
(bd (fX9_ordered s9) fun (r12 : Int32) (s11 : PH) =>
(if r12 ≤ v8 then
(some ((), s11))
else
(bd (fX9_inOrder v8 s11) fun (r14 : Int32) (s13 : PH) =>
(lt r14 fun (v15 : Int32) =>
(lt (0 : Int64) fun (u16 : Int64) =>
(bd (fX4_begin a1 v15 s13) fun (r18 : Int32) (s17 : PH) =>
(lt r18 fun (v19 : Int32) =>
(loo3 (fun (recrec23 : Int64 → Int32 → PH → Option (Unit × PH)) (u20 : Int64) (v21 : Int32) (s22 : PH) =>
(bd (fX4_end a1 v15 s22) fun (r25 : Int32) (s24 : PH) =>
(if r25 ≤ v21 then
(wa (tLen t) (v2 + v15) (lt (si s24 (cId t 3) (v2 + v15).toNatClampNeg ((if u20 < (1000000000 : Int64) then u20 else (1000000000 : Int64)).toInt32)) fun (s26 : PH) =>
(lt (v8 + (nI 1)) fun (v27 : Int32) =>
(recrec10 v27 s26))))
else
(bd (fX9_tail v21 (nI 0) s24) fun (r29 : Int32) (s28 : PH) =>
(jn (fun (u30 : Int64) (s31 : PH) =>
(lt (v21 + (nI 1)) fun (v33 : Int32) =>
(recrec23 u30 v33 s31))) (fun (j32 : Int64 → PH → Option (Unit × PH)) =>
(if (a4 - a3) < r29 then
(j32 u20 s28)
else
(bd (fX1_waysOf n t a1 v21 a3 a4 s28) fun (r35 : Int32) (s34 : PH) =>
(lt (u20 + r35.toInt64) fun (u36 : Int64) =>
(j32 u36 s34)))))))))) n u16 v19 s17))))))))) n v7 s5))
else
(wa (tLen t) (v2 + v4) (lt (si s5 (cId t 3) (v2 + v4).toNatClampNeg (nI 0)) fun (s37 : PH) =>
(lt (v4 + (nI 1)) fun (v38 : Int32) =>
(recrec6 v38 s37)))))) n v3 s0))))
set_option maxRecDepth 20000 in
set_option maxHeartbeats 2000000 in
theorem mX1_fill (l : Launch) (n : Nat) (t : Nat) (a1 : Nat) (a3 : Int32) (a4 : Int32) (s0 : PH) (ht : t < 2) (ha1 : a1 < 6) : Ctv 148 l yX1_fill cX1_fill 11 none (rmOf 3 84) (fun E => [.ref (E.2.1 (cId t 0)), .ref (E.2.1 (gId a1 0)), .ref (E.2.1 7), .int a3, .int a4]) s0 (fX1_fill n t a1 a3 a4 s0) := by
  refine Ctv.of (by decide) rfl (lv := fun E => [(0, .ref (E.2.1 (cId t 0))), (1, .ref (E.2.1 (gId a1 0))), (2, .ref (E.2.1 7)), (3, .int a3), (4, .int a4)]) (fun _ => Nat.le_of_ble_eq_true rfl) (fun _ => rfl) (fun Γ hΓ _ C => ?_)
  subst hΓ
  unfold fX1_fill
  refine rf_aload_n C dX1_fill_0 rfl 0 rfl ?_
  refine rf_get C (v := .ref ((gE Γ).2.1 (cId t 2))) cfX1 flX1_15 (by decide) (oX1 ht) rfl dX1_fill_1 ?_
  refine rf_iload_n C dX1_fill_4 rfl 3 rfl ?_
  refine rf_bipush C (v := (nI 9)) dX1_fill_5 rfl ?_
  refine rf_imul C dX1_fill_7 ?_
  refine rf_iload C dX1_fill_8 4 rfl ?_
  refine rf_iadd C dX1_fill_10 ?_
  refine rf_iald C (arC2 ht) dX1_fill_11 (fun v1 => ?_)
  refine rf_istore C (fun v2 => [(5, .int v2), (0, .ref ((gE Γ).2.1 (cId t 0))), (1, .ref ((gE Γ).2.1 (gId a1 0))), (2, .ref ((gE Γ).2.1 7)), (3, .int a3), (4, .int a4)]) dX1_fill_12 (by decide) (fun _ => rfl) (fun v2 => ?_)
  refine rf_iconst C (v := (nI 0)) dX1_fill_14 rfl ?_
  refine rf_istore C (fun v3 => [(6, .int v3), (5, .int v2), (0, .ref ((gE Γ).2.1 (cId t 0))), (1, .ref ((gE Γ).2.1 (gId a1 0))), (2, .ref ((gE Γ).2.1 7)), (3, .int a3), (4, .int a4)]) dX1_fill_15 (by decide) (fun _ => rfl) (fun v3 => ?_)
  refine rf_sub [2, 3, 4, 5, 6, 1, 0] rfl ?_
  refine rf_loo2 (fun _ _ => True) (fun _ s5 => s5) (fun v4 s5 => [(0, .ref ((gE Γ).2.1 (cId t 0))), (1, .ref ((gE Γ).2.1 (gId a1 0))), (2, .ref ((gE Γ).2.1 7)), (3, .int a3), (4, .int a4), (5, .int v2), (6, .int v4)]) (fun recrec6 hrec6 v4 s5 _ => ?_) n v3 s0 trivial
  refine rf_iload C dX1_fill_17 6 rfl ?_
  refine rf_bipush C (v := (nI 6)) dX1_fill_19 rfl ?_
  refine rf_icmp_ge C 41 dX1_fill_21 (by decide) (fun _ => ?_) (fun _ => ?_)
  · refine rf_iconst C (v := (nI 0)) dX1_fill_41 rfl ?_
    refine rf_istore C (fun v7 => [(6, .int v7), (0, .ref ((gE Γ).2.1 (cId t 0))), (1, .ref ((gE Γ).2.1 (gId a1 0))), (2, .ref ((gE Γ).2.1 7)), (3, .int a3), (4, .int a4), (5, .int v2)]) dX1_fill_42 (by decide) (fun _ => rfl) (fun v7 => ?_)
    refine rf_sub [1, 2, 3, 4, 5, 6, 0] rfl ?_
    refine rf_loo2 (fun _ _ => True) (fun _ s9 => s9) (fun v8 s9 => [(0, .ref ((gE Γ).2.1 (cId t 0))), (1, .ref ((gE Γ).2.1 (gId a1 0))), (2, .ref ((gE Γ).2.1 7)), (3, .int a3), (4, .int a4), (5, .int v2), (6, .int v8)]) (fun recrec10 hrec10 v8 s9 _ => ?_) n v7 s5 trivial
    refine rf_iload C dX1_fill_44 6 rfl ?_
    refine rf_aload_n C dX1_fill_46 rfl 2 rfl ?_
    refine rf_callVi C (rmc := rmOf 0 0) [] (by decide) (mX9_ordered (gL Γ) s9) mfX9_ordered mvX9_ordered mlX1_30 rfl oX9 rfl rfl rfl (Nat.le_of_ble_eq_true rfl) ⟨Nat.le_of_ble_eq_true rfl, Nat.le_of_ble_eq_true rfl⟩ dX1_fill_47 (fun r12 s11 => ?_)
    refine rf_icmp_ge C 145 dX1_fill_50 (by decide) (fun _ => ?_) (fun _ => ?_)
    · exact rf_vret C dX1_fill_145
    refine rf_aload_n C dX1_fill_53 rfl 2 rfl ?_
    refine rf_iload C dX1_fill_54 6 rfl ?_
    refine rf_callVi C (rmc := rmOf 0 0) [.int v8] (by decide) (mX9_inOrder (gL Γ) v8 s11) mfX9_inOrder mvX9_inOrder mlX1_36 rfl oX9 rfl rfl rfl (Nat.le_of_ble_eq_true rfl) ⟨Nat.le_of_ble_eq_true rfl, Nat.le_of_ble_eq_true rfl⟩ dX1_fill_56 (fun r14 s13 => ?_)
    refine rf_istore C (fun v15 => [(7, .int v15), (0, .ref ((gE Γ).2.1 (cId t 0))), (1, .ref ((gE Γ).2.1 (gId a1 0))), (2, .ref ((gE Γ).2.1 7)), (3, .int a3), (4, .int a4), (5, .int v2), (6, .int v8)]) dX1_fill_59 (by decide) (fun _ => rfl) (fun v15 => ?_)
    refine rf_lconst C (v := (0 : Int64)) dX1_fill_61 rfl ?_
    refine rf_lstore C (fun u16 => [(8, .long u16), (7, .int v15), (0, .ref ((gE Γ).2.1 (cId t 0))), (1, .ref ((gE Γ).2.1 (gId a1 0))), (2, .ref ((gE Γ).2.1 7)), (3, .int a3), (4, .int a4), (5, .int v2), (6, .int v8)]) dX1_fill_62 (by decide) (fun _ => rfl) (fun u16 => ?_)
    refine rf_aload_n C dX1_fill_64 rfl 3 rfl ?_
    refine rf_iload C dX1_fill_65 1 rfl ?_
    refine rf_callVi C (rmc := rmOf 0 0) [.int v15] (by decide) (mX4_begin (gL Γ) a1 v15 s13 ha1) mfX4_begin mvX4_begin mlX1_40 rfl (oX4 ha1) rfl rfl rfl (Nat.le_of_ble_eq_true rfl) ⟨Nat.le_of_ble_eq_true rfl, Nat.le_of_ble_eq_true rfl⟩ dX1_fill_67 (fun r18 s17 => ?_)
    refine rf_istore C (fun v19 => [(10, .int v19), (8, .long u16), (7, .int v15), (0, .ref ((gE Γ).2.1 (cId t 0))), (1, .ref ((gE Γ).2.1 (gId a1 0))), (2, .ref ((gE Γ).2.1 7)), (3, .int a3), (4, .int a4), (5, .int v2), (6, .int v8)]) dX1_fill_70 (by decide) (fun _ => rfl) (fun v19 => ?_)
    refine rf_sub [3, 4, 5, 6, 7, 8, 9, 2, 1, 0] rfl ?_
    refine rf_loo3 (fun _ _ _ => True) (fun _ _ s22 => s22) (fun u20 v21 s22 => [(0, .ref ((gE Γ).2.1 (cId t 0))), (1, .ref ((gE Γ).2.1 (gId a1 0))), (2, .ref ((gE Γ).2.1 7)), (3, .int a3), (4, .int a4), (5, .int v2), (6, .int v8), (7, .int v15), (8, .long u20), (10, .int v21)]) (fun recrec23 hrec23 u20 v21 s22 _ => ?_) n u16 v19 s17 trivial
    refine rf_iload C dX1_fill_72 9 rfl ?_
    refine rf_aload_n C dX1_fill_74 rfl 1 rfl ?_
    refine rf_iload C dX1_fill_75 7 rfl ?_
    refine rf_callVi C (rmc := rmOf 0 0) [.int v15] (by decide) (mX4_end (gL Γ) a1 v15 s22 ha1) mfX4_end mvX4_end mlX1_45 rfl (oX4 ha1) rfl rfl rfl (Nat.le_of_ble_eq_true rfl) ⟨Nat.le_of_ble_eq_true rfl, Nat.le_of_ble_eq_true rfl⟩ dX1_fill_77 (fun r25 s24 => ?_)
    refine rf_icmp_ge C 120 dX1_fill_80 (by decide) (fun _ => ?_) (fun _ => ?_)
    · refine rf_aload_n C dX1_fill_120 rfl 0 rfl ?_
      refine rf_get C (v := .ref ((gE Γ).2.1 (cId t 3))) cfX1 flX1_27 (by decide) (oX1 ht) rfl dX1_fill_121 ?_
      refine rf_iload C dX1_fill_124 5 rfl ?_
      refine rf_iload C dX1_fill_126 7 rfl ?_
      refine rf_iadd C dX1_fill_128 ?_
      refine rf_ldc2 C dX1_fill_129 klX1_55 ?_
      refine rf_lload C dX1_fill_132 8 rfl ?_
      refine rf_mminl C mlX1_57 (Nat.le_of_ble_eq_true rfl) (Nat.le_of_ble_eq_true rfl) mthL dX1_fill_134 ?_
      refine rf_l2i C dX1_fill_137 ?_
      refine rf_iast C (arC3 ht) dX1_fill_138 (fun s26 => ?_)
      refine rf_iinc C (fun v27 => [(6, .int v27), (0, .ref ((gE Γ).2.1 (cId t 0))), (1, .ref ((gE Γ).2.1 (gId a1 0))), (2, .ref ((gE Γ).2.1 7)), (3, .int a3), (4, .int a4), (5, .int v2), (7, .int v15), (8, .long u20), (10, .int v21)]) dX1_fill_139 6 rfl rfl (by decide) (fun _ => rfl) (fun v27 => ?_)
      refine rf_goto C 44 dX1_fill_142 (by decide) ?_
      exact rf_sub [1, 2, 3, 4, 5, 6, 0] rfl (hrec10 v27 s26 trivial)
    refine rf_aload_n C dX1_fill_83 rfl 2 rfl ?_
    refine rf_iload C dX1_fill_84 9 rfl ?_
    refine rf_iconst C (v := (nI 0)) dX1_fill_86 rfl ?_
    refine rf_callVi C (rmc := rmOf 0 0) [.int v21, .int (nI 0)] (by decide) (mX9_tail (gL Γ) v21 (nI 0) s24) mfX9_tail mvX9_tail mlX1_48 rfl oX9 rfl rfl rfl (Nat.le_of_ble_eq_true rfl) ⟨Nat.le_of_ble_eq_true rfl, Nat.le_of_ble_eq_true rfl⟩ dX1_fill_87 (fun r29 s28 => ?_)
    refine rf_iload C dX1_fill_90 4 rfl ?_
    refine rf_iload_n C dX1_fill_92 rfl 3 rfl ?_
    refine rf_isub C dX1_fill_93 ?_
    refine rf_jn2 (fun _ _ => True) (fun _ s31 => s31) (fun u30 s31 => [(0, .ref ((gE Γ).2.1 (cId t 0))), (1, .ref ((gE Γ).2.1 (gId a1 0))), (2, .ref ((gE Γ).2.1 7)), (3, .int a3), (4, .int a4), (5, .int v2), (6, .int v8), (7, .int v15), (8, .long u30), (10, .int v21)]) (fun u30 s31 => []) 114 (fun u30 s31 _ => ?_) (fun j32 hj32 => ?_)
    · refine rf_iinc C (fun v33 => [(10, .int v33), (0, .ref ((gE Γ).2.1 (cId t 0))), (1, .ref ((gE Γ).2.1 (gId a1 0))), (2, .ref ((gE Γ).2.1 7)), (3, .int a3), (4, .int a4), (5, .int v2), (6, .int v8), (7, .int v15), (8, .long u30)]) dX1_fill_114 9 rfl rfl (by decide) (fun _ => rfl) (fun v33 => ?_)
      refine rf_goto C 72 dX1_fill_117 (by decide) ?_
      exact rf_sub [1, 2, 3, 4, 5, 6, 7, 8, 9, 0] rfl (hrec23 u30 v33 s31 trivial)
    refine rf_icmp_gt C 114 dX1_fill_94 (by decide) (fun _ => ?_) (fun _ => ?_)
    · exact rf_sub [0, 1, 2, 3, 4, 5, 6, 7, 8, 9] rfl (hj32 u20 s28 trivial)
    refine rf_lload C dX1_fill_97 8 rfl ?_
    refine rf_aload_n C dX1_fill_99 rfl 0 rfl ?_
    refine rf_aload_n C dX1_fill_100 rfl 1 rfl ?_
    refine rf_aload_n C dX1_fill_101 rfl 2 rfl ?_
    refine rf_iload C dX1_fill_102 9 rfl ?_
    refine rf_iload_n C dX1_fill_104 rfl 3 rfl ?_
    refine rf_iload C dX1_fill_105 4 rfl ?_
    refine rf_callVi C (rmc := rmOf 2 52) [.ref ((gE Γ).2.1 (gId a1 0)), .ref ((gE Γ).2.1 7), .int v21, .int a3, .int a4] (by decide) (mX1_waysOf (gL Γ) n t a1 v21 a3 a4 s28 ht ha1) mfX1_waysOf mvX1_waysOf mlX1_51 rfl (oX1 ht) rfl rfl rfl (Nat.le_of_ble_eq_true rfl) ⟨Nat.le_of_ble_eq_true rfl, Nat.le_of_ble_eq_true rfl⟩ dX1_fill_107 (fun r35 s34 => ?_)
    refine rf_i2l C dX1_fill_110 ?_
    refine rf_ladd C dX1_fill_111 ?_
    refine rf_lstore C (fun u36 => [(8, .long u36), (0, .ref ((gE Γ).2.1 (cId t 0))), (1, .ref ((gE Γ).2.1 (gId a1 0))), (2, .ref ((gE Γ).2.1 7)), (3, .int a3), (4, .int a4), (5, .int v2), (6, .int v8), (7, .int v15), (10, .int v21)]) dX1_fill_112 (by decide) (fun _ => rfl) (fun u36 => ?_)
    exact rf_sub [1, 2, 3, 4, 5, 6, 7, 8, 0, 9] rfl (hj32 u36 s34 trivial)
  refine rf_aload_n C dX1_fill_24 rfl 0 rfl ?_
  refine rf_get C (v := .ref ((gE Γ).2.1 (cId t 3))) cfX1 flX1_27 (by decide) (oX1 ht) rfl dX1_fill_25 ?_
  refine rf_iload C dX1_fill_28 5 rfl ?_
  refine rf_iload C dX1_fill_30 6 rfl ?_
  refine rf_iadd C dX1_fill_32 ?_
  refine rf_iconst C (v := (nI 0)) dX1_fill_33 rfl ?_
  refine rf_iast C (arC3 ht) dX1_fill_34 (fun s37 => ?_)
  refine rf_iinc C (fun v38 => [(6, .int v38), (0, .ref ((gE Γ).2.1 (cId t 0))), (1, .ref ((gE Γ).2.1 (gId a1 0))), (2, .ref ((gE Γ).2.1 7)), (3, .int a3), (4, .int a4), (5, .int v2)]) dX1_fill_35 6 rfl rfl (by decide) (fun _ => rfl) (fun v38 => ?_)
  refine rf_goto C 17 dX1_fill_38 (by decide) ?_
  exact rf_sub [1, 2, 3, 4, 5, 6, 0] rfl (hrec6 v38 s37 trivial)

def fX1_setLetter (t : Nat) (a1 : Int32) (a2 : Int32) (s0 : PH) : Option (Unit × PH) :=
(wa 8 a1 (lt (si s0 (cId t 1) a1.toNatClampNeg a2) fun (s1 : PH) =>
(some ((), s1))))
set_option maxRecDepth 20000 in
set_option maxHeartbeats 2000000 in
theorem mX1_setLetter (l : Launch) (t : Nat) (a1 : Int32) (a2 : Int32) (s0 : PH) (ht : t < 2) : Ctv 148 l yX1_setLetter cX1_setLetter 3 none (rmOf 0 0) (fun E => [.ref (E.2.1 (cId t 0)), .int a1, .int a2]) s0 (fX1_setLetter t a1 a2 s0) := by
  refine Ctv.of (by decide) rfl (lv := fun E => [(0, .ref (E.2.1 (cId t 0))), (1, .int a1), (2, .int a2)]) (fun _ => Nat.le_of_ble_eq_true rfl) (fun _ => rfl) (fun Γ hΓ _ C => ?_)
  subst hΓ
  unfold fX1_setLetter
  refine rf_aload_n C dX1_setLetter_0 rfl 0 rfl ?_
  refine rf_get C (v := .ref ((gE Γ).2.1 (cId t 1))) cfX1 flX1_9 (by decide) (oX1 ht) rfl dX1_setLetter_1 ?_
  refine rf_iload_n C dX1_setLetter_4 rfl 1 rfl ?_
  refine rf_iload_n C dX1_setLetter_5 rfl 2 rfl ?_
  refine rf_iast C (arC1 ht) dX1_setLetter_6 (fun s1 => ?_)
  exact rf_vret C dX1_setLetter_7

def fX2_total (n : Nat) (a1 : Nat) (s0 : PH) : Option (Int32 × PH) :=
(if (s0.1 24 5) = 0 then
(bd (fX8_size s0) fun (r2 : Int32) (s1 : PH) =>
(if (nI 8) < r2 then
(some ((s1.1 24 8), s1))
else
(bd (fX8_size s1) fun (r4 : Int32) (s3 : PH) =>
(lt (si s3 24 7 r4) fun (s5 : PH) =>
(lt (nI 0) fun (v6 : Int32) =>
(loo2 (fun (recrec9 : Int32 → PH → Option (Int32 × PH)) (v7 : Int32) (s8 : PH) =>
(if (s8.1 24 7) ≤ v7 then
(lt (nI 0) fun (v10 : Int32) =>
(loo2 (fun (recrec13 : Int32 → PH → Option (Int32 × PH)) (v11 : Int32) (s12 : PH) =>
(if (s12.1 24 7) < v11 then
(bd (fX4_start a1 s12) fun (r15 : Int32) (s14 : PH) =>
(bd (fX1_count 0 r15 (nI 0) (s14.1 24 7) s14) fun (r17 : Int32) (s16 : PH) =>
(lt (si s16 24 8 r17) fun (s18 : PH) =>
(lt (si s18 24 5 (nI 1)) fun (s19 : PH) =>
(some ((s19.1 24 8), s19))))))
else
(lt (nI 0) fun (v20 : Int32) =>
(loo2 (fun (recrec23 : Int32 → PH → Option (Int32 × PH)) (v21 : Int32) (s22 : PH) =>
(if (s22.1 24 7) < (v21 + v11) then
(lt (v11 + (nI 1)) fun (v24 : Int32) =>
(recrec13 v24 s22))
else
(bd (fX1_fill n 0 a1 v21 (v21 + v11) s22) fun _ (s25 : PH) =>
(lt (v21 + (nI 1)) fun (v26 : Int32) =>
(recrec23 v26 s25))))) n v20 s12)))) n v10 s8))
else
(bd (fX8_letterAt v7 s8) fun (r28 : Int32) (s27 : PH) =>
(bd (fX1_setLetter 0 v7 r28 s27) fun _ (s29 : PH) =>
(lt (v7 + (nI 1)) fun (v30 : Int32) =>
(recrec9 v30 s29)))))) n v6 s5))))))
else
(some ((s0.1 24 8), s0)))
set_option maxRecDepth 20000 in
set_option maxHeartbeats 2000000 in
theorem mX2_total (l : Launch) (n : Nat) (a1 : Nat) (s0 : PH) (ha1 : a1 < 6) : Cti 148 l yX2_total cX2_total 6 (some .int) (rmOf 4 114) (fun E => [.ref (E.2.1 24), .ref (E.2.1 (gId a1 0)), .ref (E.2.1 7), .ref (E.2.1 1)]) s0 (fX2_total n a1 s0) := by
  refine Cti.of (by decide) rfl (lv := fun E => [(0, .ref (E.2.1 24)), (1, .ref (E.2.1 (gId a1 0))), (2, .ref (E.2.1 7)), (3, .ref (E.2.1 1))]) (fun _ => Nat.le_of_ble_eq_true rfl) (fun _ => rfl) (fun Γ hΓ _ C => ?_)
  subst hΓ
  unfold fX2_total
  refine rf_aload_n C dX2_total_0 rfl 0 rfl ?_
  refine rf_get C (v := .int (s0.1 24 5)) cfX2 flX2_33 (by decide) oX2 rfl dX2_total_1 ?_
  refine rf_if_ne C 137 dX2_total_4 (by decide) (fun _ => ?_) (fun _ => ?_)
  · refine rf_aload_n C dX2_total_137 rfl 0 rfl ?_
    refine rf_get C (v := .int (s0.1 24 8)) cfX2 flX2_44 (by decide) oX2 rfl dX2_total_138 ?_
    exact rf_iret C dX2_total_141
  refine rf_aload_n C dX2_total_7 rfl 3 rfl ?_
  refine rf_callVi C (rmc := rmOf 0 0) [] (by decide) (mX8_size (gL Γ) s0) mfX8_size mvX8_size mlX2_57 rfl oX8 rfl rfl rfl (Nat.le_of_ble_eq_true rfl) ⟨Nat.le_of_ble_eq_true rfl, Nat.le_of_ble_eq_true rfl⟩ dX2_total_8 (fun r2 s1 => ?_)
  refine rf_bipush C (v := (nI 8)) dX2_total_11 rfl ?_
  refine rf_icmp_gt C 137 dX2_total_13 (by decide) (fun _ => ?_) (fun _ => ?_)
  · refine rf_aload_n C dX2_total_137 rfl 0 rfl ?_
    refine rf_get C (v := .int (s1.1 24 8)) cfX2 flX2_44 (by decide) oX2 rfl dX2_total_138 ?_
    exact rf_iret C dX2_total_141
  refine rf_aload_n C dX2_total_16 rfl 0 rfl ?_
  refine rf_aload_n C dX2_total_17 rfl 3 rfl ?_
  refine rf_callVi C (rmc := rmOf 0 0) [] (by decide) (mX8_size (gL Γ) s1) mfX8_size mvX8_size mlX2_57 rfl oX8 rfl rfl rfl (Nat.le_of_ble_eq_true rfl) ⟨Nat.le_of_ble_eq_true rfl, Nat.le_of_ble_eq_true rfl⟩ dX2_total_18 (fun r4 s3 => ?_)
  refine rf_puti C cfX2 flX2_40 (by decide) rfl oX2 (fty := .int) rfl rfl rfl (fun _ _ _ _ => Nat.le_of_ble_eq_true rfl) (fun _ _ _ _ => rfl) dX2_total_21 (fun s5 => ?_)
  refine rf_iconst C (v := (nI 0)) dX2_total_24 rfl ?_
  refine rf_istore C (fun v6 => [(4, .int v6), (0, .ref ((gE Γ).2.1 24)), (1, .ref ((gE Γ).2.1 (gId a1 0))), (2, .ref ((gE Γ).2.1 7)), (3, .ref ((gE Γ).2.1 1))]) dX2_total_25 (by decide) (fun _ => rfl) (fun v6 => ?_)
  refine rf_sub [1, 2, 3, 4, 0] rfl ?_
  refine rf_loo2 (fun _ _ => True) (fun _ s8 => s8) (fun v7 s8 => [(0, .ref ((gE Γ).2.1 24)), (1, .ref ((gE Γ).2.1 (gId a1 0))), (2, .ref ((gE Γ).2.1 7)), (3, .ref ((gE Γ).2.1 1)), (4, .int v7)]) (fun recrec9 hrec9 v7 s8 _ => ?_) n v6 s5 trivial
  refine rf_iload C dX2_total_27 4 rfl ?_
  refine rf_aload_n C dX2_total_29 rfl 0 rfl ?_
  refine rf_get C (v := .int (s8.1 24 7)) cfX2 flX2_40 (by decide) oX2 rfl dX2_total_30 ?_
  refine rf_icmp_ge C 57 dX2_total_33 (by decide) (fun _ => ?_) (fun _ => ?_)
  · refine rf_iconst C (v := (nI 0)) dX2_total_57 rfl ?_
    refine rf_istore C (fun v10 => [(4, .int v10), (0, .ref ((gE Γ).2.1 24)), (1, .ref ((gE Γ).2.1 (gId a1 0))), (2, .ref ((gE Γ).2.1 7)), (3, .ref ((gE Γ).2.1 1))]) dX2_total_58 (by decide) (fun _ => rfl) (fun v10 => ?_)
    refine rf_sub [1, 2, 3, 0] rfl ?_
    refine rf_loo2 (fun _ _ => True) (fun _ s12 => s12) (fun v11 s12 => [(0, .ref ((gE Γ).2.1 24)), (1, .ref ((gE Γ).2.1 (gId a1 0))), (2, .ref ((gE Γ).2.1 7)), (4, .int v11)]) (fun recrec13 hrec13 v11 s12 _ => ?_) n v10 s8 trivial
    refine rf_iload C dX2_total_60 3 rfl ?_
    refine rf_aload_n C dX2_total_62 rfl 0 rfl ?_
    refine rf_get C (v := .int (s12.1 24 7)) cfX2 flX2_40 (by decide) oX2 rfl dX2_total_63 ?_
    refine rf_icmp_gt C 112 dX2_total_66 (by decide) (fun _ => ?_) (fun _ => ?_)
    · refine rf_aload_n C dX2_total_112 rfl 0 rfl ?_
      refine rf_aload_n C dX2_total_113 rfl 0 rfl ?_
      refine rf_get C (v := .ref ((gE Γ).2.1 (cId 0 0))) cfX2 flX2_16 (by decide) oX2 rfl dX2_total_114 ?_
      refine rf_aload_n C dX2_total_117 rfl 1 rfl ?_
      refine rf_callVi C (rmc := rmOf 0 0) [] (by decide) (mX4_start (gL Γ) a1 s12 ha1) mfX4_start mvX4_start mlX2_74 rfl (oX4 ha1) rfl rfl rfl (Nat.le_of_ble_eq_true rfl) ⟨Nat.le_of_ble_eq_true rfl, Nat.le_of_ble_eq_true rfl⟩ dX2_total_118 (fun r15 s14 => ?_)
      refine rf_iconst C (v := (nI 0)) dX2_total_121 rfl ?_
      refine rf_aload_n C dX2_total_122 rfl 0 rfl ?_
      refine rf_get C (v := .int (s14.1 24 7)) cfX2 flX2_40 (by decide) oX2 rfl dX2_total_123 ?_
      refine rf_callVi C (rmc := rmOf 0 0) [.int r15, .int (nI 0), .int (s14.1 24 7)] (by decide) (mX1_count (gL Γ) 0 r15 (nI 0) (s14.1 24 7) s14 (by decide)) mfX1_count mvX1_count mlX2_79 rfl (oX1 (by decide)) rfl rfl rfl (Nat.le_of_ble_eq_true rfl) ⟨Nat.le_of_ble_eq_true rfl, Nat.le_of_ble_eq_true rfl⟩ dX2_total_126 (fun r17 s16 => ?_)
      refine rf_puti C cfX2 flX2_44 (by decide) rfl oX2 (fty := .int) rfl rfl rfl (fun _ _ _ _ => Nat.le_of_ble_eq_true rfl) (fun _ _ _ _ => rfl) dX2_total_129 (fun s18 => ?_)
      refine rf_aload_n C dX2_total_132 rfl 0 rfl ?_
      refine rf_iconst C (v := (nI 1)) dX2_total_133 rfl ?_
      refine rf_puti C cfX2 flX2_33 (by decide) rfl oX2 (fty := .boolean) rfl rfl rfl (fun _ _ _ _ => Nat.le_of_ble_eq_true rfl) (fun _ _ _ _ => rfl) dX2_total_134 (fun s19 => ?_)
      refine rf_aload_n C dX2_total_137 rfl 0 rfl ?_
      refine rf_get C (v := .int (s19.1 24 8)) cfX2 flX2_44 (by decide) oX2 rfl dX2_total_138 ?_
      exact rf_iret C dX2_total_141
    refine rf_iconst C (v := (nI 0)) dX2_total_69 rfl ?_
    refine rf_istore C (fun v20 => [(5, .int v20), (0, .ref ((gE Γ).2.1 24)), (1, .ref ((gE Γ).2.1 (gId a1 0))), (2, .ref ((gE Γ).2.1 7)), (4, .int v11)]) dX2_total_70 (by decide) (fun _ => rfl) (fun v20 => ?_)
    refine rf_sub [1, 2, 3, 4, 0] rfl ?_
    refine rf_loo2 (fun _ _ => True) (fun _ s22 => s22) (fun v21 s22 => [(0, .ref ((gE Γ).2.1 24)), (1, .ref ((gE Γ).2.1 (gId a1 0))), (2, .ref ((gE Γ).2.1 7)), (4, .int v11), (5, .int v21)]) (fun recrec23 hrec23 v21 s22 _ => ?_) n v20 s12 trivial
    refine rf_iload C dX2_total_72 4 rfl ?_
    refine rf_iload C dX2_total_74 3 rfl ?_
    refine rf_iadd C dX2_total_76 ?_
    refine rf_aload_n C dX2_total_77 rfl 0 rfl ?_
    refine rf_get C (v := .int (s22.1 24 7)) cfX2 flX2_40 (by decide) oX2 rfl dX2_total_78 ?_
    refine rf_icmp_gt C 106 dX2_total_81 (by decide) (fun _ => ?_) (fun _ => ?_)
    · refine rf_iinc C (fun v24 => [(4, .int v24), (0, .ref ((gE Γ).2.1 24)), (1, .ref ((gE Γ).2.1 (gId a1 0))), (2, .ref ((gE Γ).2.1 7)), (5, .int v21)]) dX2_total_106 3 rfl rfl (by decide) (fun _ => rfl) (fun v24 => ?_)
      refine rf_goto C 60 dX2_total_109 (by decide) ?_
      exact rf_sub [1, 2, 3, 0] rfl (hrec13 v24 s22 trivial)
    refine rf_aload_n C dX2_total_84 rfl 0 rfl ?_
    refine rf_get C (v := .ref ((gE Γ).2.1 (cId 0 0))) cfX2 flX2_16 (by decide) oX2 rfl dX2_total_85 ?_
    refine rf_aload_n C dX2_total_88 rfl 1 rfl ?_
    refine rf_aload_n C dX2_total_89 rfl 2 rfl ?_
    refine rf_iload C dX2_total_90 4 rfl ?_
    refine rf_iload C dX2_total_92 4 rfl ?_
    refine rf_iload C dX2_total_94 3 rfl ?_
    refine rf_iadd C dX2_total_96 ?_
    refine rf_callVv C (rmc := rmOf 3 84) [.ref ((gE Γ).2.1 (gId a1 0)), .ref ((gE Γ).2.1 7), .int v21, .int (v21 + v11)] (by decide) (mX1_fill (gL Γ) n 0 a1 v21 (v21 + v11) s22 (by decide) ha1) mfX1_fill mvX1_fill mlX2_70 rfl (oX1 (by decide)) rfl rfl rfl (Nat.le_of_ble_eq_true rfl) ⟨Nat.le_of_ble_eq_true rfl, Nat.le_of_ble_eq_true rfl⟩ dX2_total_97 (fun s25 => ?_)
    refine rf_iinc C (fun v26 => [(5, .int v26), (0, .ref ((gE Γ).2.1 24)), (1, .ref ((gE Γ).2.1 (gId a1 0))), (2, .ref ((gE Γ).2.1 7)), (4, .int v11)]) dX2_total_100 4 rfl rfl (by decide) (fun _ => rfl) (fun v26 => ?_)
    refine rf_goto C 72 dX2_total_103 (by decide) ?_
    exact rf_sub [1, 2, 3, 4, 0] rfl (hrec23 v26 s25 trivial)
  refine rf_aload_n C dX2_total_36 rfl 0 rfl ?_
  refine rf_get C (v := .ref ((gE Γ).2.1 (cId 0 0))) cfX2 flX2_16 (by decide) oX2 rfl dX2_total_37 ?_
  refine rf_iload C dX2_total_40 4 rfl ?_
  refine rf_aload_n C dX2_total_42 rfl 3 rfl ?_
  refine rf_iload C dX2_total_43 4 rfl ?_
  refine rf_callVi C (rmc := rmOf 1 21) [.int v7] (by decide) (mX8_letterAt (gL Γ) v7 s8) mfX8_letterAt mvX8_letterAt mlX2_62 rfl oX8 rfl rfl rfl (Nat.le_of_ble_eq_true rfl) ⟨Nat.le_of_ble_eq_true rfl, Nat.le_of_ble_eq_true rfl⟩ dX2_total_45 (fun r28 s27 => ?_)
  refine rf_callVv C (rmc := rmOf 0 0) [.int v7, .int r28] (by decide) (mX1_setLetter (gL Γ) 0 v7 r28 s27 (by decide)) mfX1_setLetter mvX1_setLetter mlX2_66 rfl (oX1 (by decide)) rfl rfl rfl (Nat.le_of_ble_eq_true rfl) ⟨Nat.le_of_ble_eq_true rfl, Nat.le_of_ble_eq_true rfl⟩ dX2_total_48 (fun s29 => ?_)
  refine rf_iinc C (fun v30 => [(4, .int v30), (0, .ref ((gE Γ).2.1 24)), (1, .ref ((gE Γ).2.1 (gId a1 0))), (2, .ref ((gE Γ).2.1 7)), (3, .ref ((gE Γ).2.1 1))]) dX2_total_51 4 rfl rfl (by decide) (fun _ => rfl) (fun v30 => ?_)
  refine rf_goto C 27 dX2_total_54 (by decide) ?_
  exact rf_sub [1, 2, 3, 4, 0] rfl (hrec9 v30 s29 trivial)

def fX11_derivations (n : Nat) (s0 : PH) : Option (Int32 × PH) :=
(bd (fX9_cyclesReachably s0) fun (r2 : Int32) (s1 : PH) =>
(if r2 = 0 then
(bd (fX8_inputFault n s1) fun (r4 : Int32) (s3 : PH) =>
(lt r4 fun (v5 : Int32) =>
(if v5 = (-9 : Int32) then
(lt (s3.2.2 0 8) fun (g6 : Nat) =>
(bd (fX2_total n g6 s3) fun (r8 : Int32) (s7 : PH) =>
(some (r8, s7))))
else
(some (((-100 : Int32) - v5), s3)))))
else
(some ((-2 : Int32), s1))))
set_option maxRecDepth 20000 in
set_option maxHeartbeats 2000000 in
theorem mX11_derivations (l : Launch) (n : Nat) (s0 : PH) : Cti 148 l yX11_derivations cX11_derivations 2 (some .int) (rmOf 5 139) (fun E => [.ref (E.2.1 0)]) s0 (fX11_derivations n s0) := by
  refine Cti.of (by decide) rfl (lv := fun E => [(0, .ref (E.2.1 0))]) (fun _ => Nat.le_of_ble_eq_true rfl) (fun _ => rfl) (fun Γ hΓ _ C => ?_)
  subst hΓ
  unfold fX11_derivations
  refine rf_aload_n C dX11_derivations_0 rfl 0 rfl ?_
  refine rf_get C (v := .ref ((gE Γ).2.1 7)) cfX11 flX11_33 (by decide) oX11 rfl dX11_derivations_1 ?_
  refine rf_callVi C (rmc := rmOf 0 0) [] (by decide) (mX9_cyclesReachably (gL Γ) s0) mfX9_cyclesReachably mvX9_cyclesReachably mlX11_220 rfl oX9 rfl rfl rfl (Nat.le_of_ble_eq_true rfl) ⟨Nat.le_of_ble_eq_true rfl, Nat.le_of_ble_eq_true rfl⟩ dX11_derivations_4 (fun r2 s1 => ?_)
  refine rf_if_eq C 13 dX11_derivations_7 (by decide) (fun _ => ?_) (fun _ => ?_)
  · refine rf_aload_n C dX11_derivations_13 rfl 0 rfl ?_
    refine rf_get C (v := .ref ((gE Γ).2.1 1)) cfX11 flX11_10 (by decide) oX11 rfl dX11_derivations_14 ?_
    refine rf_callVi C (rmc := rmOf 0 0) [] (by decide) (mX8_inputFault (gL Γ) n s1) mfX8_inputFault mvX8_inputFault mlX11_209 rfl oX8 rfl rfl rfl (Nat.le_of_ble_eq_true rfl) ⟨Nat.le_of_ble_eq_true rfl, Nat.le_of_ble_eq_true rfl⟩ dX11_derivations_17 (fun r4 s3 => ?_)
    refine rf_istore_n C (fun v5 => [(1, .int v5), (0, .ref ((gE Γ).2.1 0))]) dX11_derivations_20 rfl (by decide) (fun _ => rfl) (fun v5 => ?_)
    refine rf_iload_n C dX11_derivations_21 rfl 0 rfl ?_
    refine rf_bipush C (v := (-9 : Int32)) dX11_derivations_22 rfl ?_
    refine rf_icmp_eq C 32 dX11_derivations_24 (by decide) (fun _ => ?_) (fun _ => ?_)
    · refine rf_aload_n C dX11_derivations_32 rfl 1 rfl ?_
      refine rf_get C (v := .ref ((gE Γ).2.1 24)) cfX11 flX11_54 (by decide) oX11 rfl dX11_derivations_33 ?_
      refine rf_aload_n C dX11_derivations_36 rfl 1 rfl ?_
      refine rf_getG C cfX11 flX11_68 (by decide) oX11 (fun _ _ _ _ => rfl) dX11_derivations_37 (fun g6 hg6 => ?_)
      refine rf_aload_n C dX11_derivations_40 rfl 1 rfl ?_
      refine rf_get C (v := .ref ((gE Γ).2.1 7)) cfX11 flX11_33 (by decide) oX11 rfl dX11_derivations_41 ?_
      refine rf_aload_n C dX11_derivations_44 rfl 1 rfl ?_
      refine rf_get C (v := .ref ((gE Γ).2.1 1)) cfX11 flX11_10 (by decide) oX11 rfl dX11_derivations_45 ?_
      refine rf_callVi C (rmc := rmOf 4 114) [.ref ((gE Γ).2.1 (gId g6 0)), .ref ((gE Γ).2.1 7), .ref ((gE Γ).2.1 1)] (by decide) (mX2_total (gL Γ) n g6 s3 hg6) mfX2_total mvX2_total mlX11_223 rfl oX2 rfl rfl rfl (Nat.le_of_ble_eq_true rfl) ⟨Nat.le_of_ble_eq_true rfl, Nat.le_of_ble_eq_true rfl⟩ dX11_derivations_48 (fun r8 s7 => ?_)
      exact rf_iret C dX11_derivations_51
    refine rf_bipush C (v := (-100 : Int32)) dX11_derivations_27 rfl ?_
    refine rf_iload_n C dX11_derivations_29 rfl 0 rfl ?_
    refine rf_isub C dX11_derivations_30 ?_
    exact rf_iret C dX11_derivations_31
  refine rf_bipush C (v := (-2 : Int32)) dX11_derivations_10 rfl ?_
  exact rf_iret C dX11_derivations_12

def fX2_waysOfNonterminal (n : Nat) (a1 : Int32) (a2 : Int32) (a3 : Int32) (s0 : PH) : Option (Int32 × PH) :=
(lt (0 : Int64) fun (u1 : Int64) =>
(lt a2 fun (v2 : Int32) =>
(loo3 (fun (recrec6 : Int64 → Int32 → PH → Option (Int32 × PH)) (u3 : Int64) (v4 : Int32) (s5 : PH) =>
(if (s5.1 24 7) < v4 then
(some (u3.toInt32, s5))
else
(ra 7218 (a3 + v4) (s5.1 26) fun (v7 : Int32) =>
(jn (fun (u8 : Int64) (s9 : PH) =>
(lt (v4 + (nI 1)) fun (v11 : Int32) =>
(recrec6 u8 v11 s9))) (fun (j10 : Int64 → PH → Option (Int32 × PH)) =>
(if v7 = 0 then
(j10 u3 s5)
else
(bd (fX1_count 0 a1 a2 v4 s5) fun (r13 : Int32) (s12 : PH) =>
(ra 7218 (a3 + v4) (s12.1 26) fun (v14 : Int32) =>
(lt (if (u3 + (r13.toInt64 * v14.toInt64)) < (1000000000 : Int64) then (u3 + (r13.toInt64 * v14.toInt64)) else (1000000000 : Int64)) fun (u15 : Int64) =>
(j10 u15 s12)))))))))) n u1 v2 s0)))
set_option maxRecDepth 20000 in
set_option maxHeartbeats 2000000 in
theorem mX2_waysOfNonterminal (l : Launch) (n : Nat) (a1 : Int32) (a2 : Int32) (a3 : Int32) (s0 : PH) : Cti 148 l yX2_waysOfNonterminal cX2_waysOfNonterminal 7 (some .int) (rmOf 1 23) (fun E => [.ref (E.2.1 24), .int a1, .int a2, .int a3]) s0 (fX2_waysOfNonterminal n a1 a2 a3 s0) := by
  refine Cti.of (by decide) rfl (lv := fun E => [(0, .ref (E.2.1 24)), (1, .int a1), (2, .int a2), (3, .int a3)]) (fun _ => Nat.le_of_ble_eq_true rfl) (fun _ => rfl) (fun Γ hΓ _ C => ?_)
  subst hΓ
  unfold fX2_waysOfNonterminal
  refine rf_lconst C (v := (0 : Int64)) dX2_waysOfNonterminal_0 rfl ?_
  refine rf_lstore C (fun u1 => [(4, .long u1), (0, .ref ((gE Γ).2.1 24)), (1, .int a1), (2, .int a2), (3, .int a3)]) dX2_waysOfNonterminal_1 (by decide) (fun _ => rfl) (fun u1 => ?_)
  refine rf_iload_n C dX2_waysOfNonterminal_3 rfl 3 rfl ?_
  refine rf_istore C (fun v2 => [(6, .int v2), (4, .long u1), (0, .ref ((gE Γ).2.1 24)), (1, .int a1), (2, .int a2), (3, .int a3)]) dX2_waysOfNonterminal_4 (by decide) (fun _ => rfl) (fun v2 => ?_)
  refine rf_sub [2, 3, 4, 5, 1, 0] rfl ?_
  refine rf_loo3 (fun _ _ _ => True) (fun _ _ s5 => s5) (fun u3 v4 s5 => [(0, .ref ((gE Γ).2.1 24)), (1, .int a1), (2, .int a2), (3, .int a3), (4, .long u3), (6, .int v4)]) (fun recrec6 hrec6 u3 v4 s5 _ => ?_) n u1 v2 s0 trivial
  refine rf_iload C dX2_waysOfNonterminal_6 5 rfl ?_
  refine rf_aload_n C dX2_waysOfNonterminal_8 rfl 0 rfl ?_
  refine rf_get C (v := .int (s5.1 24 7)) cfX2 flX2_40 (by decide) oX2 rfl dX2_waysOfNonterminal_9 ?_
  refine rf_icmp_gt C 67 dX2_waysOfNonterminal_12 (by decide) (fun _ => ?_) (fun _ => ?_)
  · refine rf_lload C dX2_waysOfNonterminal_67 4 rfl ?_
    refine rf_l2i C dX2_waysOfNonterminal_69 ?_
    exact rf_iret C dX2_waysOfNonterminal_70
  refine rf_aload_n C dX2_waysOfNonterminal_15 rfl 0 rfl ?_
  refine rf_get C (v := .ref ((gE Γ).2.1 26)) cfX2 flX2_24 (by decide) oX2 rfl dX2_waysOfNonterminal_16 ?_
  refine rf_iload_n C dX2_waysOfNonterminal_19 rfl 3 rfl ?_
  refine rf_iload C dX2_waysOfNonterminal_20 5 rfl ?_
  refine rf_iadd C dX2_waysOfNonterminal_22 ?_
  refine rf_iald C ar26 dX2_waysOfNonterminal_23 (fun v7 => ?_)
  refine rf_jn2 (fun _ _ => True) (fun _ s9 => s9) (fun u8 s9 => [(0, .ref ((gE Γ).2.1 24)), (1, .int a1), (2, .int a2), (3, .int a3), (4, .long u8), (6, .int v4)]) (fun u8 s9 => []) 61 (fun u8 s9 _ => ?_) (fun j10 hj10 => ?_)
  · refine rf_iinc C (fun v11 => [(6, .int v11), (0, .ref ((gE Γ).2.1 24)), (1, .int a1), (2, .int a2), (3, .int a3), (4, .long u8)]) dX2_waysOfNonterminal_61 5 rfl rfl (by decide) (fun _ => rfl) (fun v11 => ?_)
    refine rf_goto C 6 dX2_waysOfNonterminal_64 (by decide) ?_
    exact rf_sub [1, 2, 3, 4, 5, 0] rfl (hrec6 u8 v11 s9 trivial)
  refine rf_if_eq C 61 dX2_waysOfNonterminal_24 (by decide) (fun _ => ?_) (fun _ => ?_)
  · exact rf_sub [0, 1, 2, 3, 4, 5] rfl (hj10 u3 s5 trivial)
  refine rf_ldc2 C dX2_waysOfNonterminal_27 klX2_123 ?_
  refine rf_lload C dX2_waysOfNonterminal_30 4 rfl ?_
  refine rf_aload_n C dX2_waysOfNonterminal_32 rfl 0 rfl ?_
  refine rf_get C (v := .ref ((gE Γ).2.1 (cId 0 0))) cfX2 flX2_16 (by decide) oX2 rfl dX2_waysOfNonterminal_33 ?_
  refine rf_iload_n C dX2_waysOfNonterminal_36 rfl 1 rfl ?_
  refine rf_iload_n C dX2_waysOfNonterminal_37 rfl 2 rfl ?_
  refine rf_iload C dX2_waysOfNonterminal_38 5 rfl ?_
  refine rf_callVi C (rmc := rmOf 0 0) [.int a1, .int a2, .int v4] (by decide) (mX1_count (gL Γ) 0 a1 a2 v4 s5 (by decide)) mfX1_count mvX1_count mlX2_79 rfl (oX1 (by decide)) rfl rfl rfl (Nat.le_of_ble_eq_true rfl) ⟨Nat.le_of_ble_eq_true rfl, Nat.le_of_ble_eq_true rfl⟩ dX2_waysOfNonterminal_40 (fun r13 s12 => ?_)
  refine rf_i2l C dX2_waysOfNonterminal_43 ?_
  refine rf_aload_n C dX2_waysOfNonterminal_44 rfl 0 rfl ?_
  refine rf_get C (v := .ref ((gE Γ).2.1 26)) cfX2 flX2_24 (by decide) oX2 rfl dX2_waysOfNonterminal_45 ?_
  refine rf_iload_n C dX2_waysOfNonterminal_48 rfl 3 rfl ?_
  refine rf_iload C dX2_waysOfNonterminal_49 5 rfl ?_
  refine rf_iadd C dX2_waysOfNonterminal_51 ?_
  refine rf_iald C ar26 dX2_waysOfNonterminal_52 (fun v14 => ?_)
  refine rf_i2l C dX2_waysOfNonterminal_53 ?_
  refine rf_lmul C dX2_waysOfNonterminal_54 ?_
  refine rf_ladd C dX2_waysOfNonterminal_55 ?_
  refine rf_mminl C mlX2_125 (Nat.le_of_ble_eq_true rfl) (Nat.le_of_ble_eq_true rfl) mthL dX2_waysOfNonterminal_56 ?_
  refine rf_lstore C (fun u15 => [(4, .long u15), (0, .ref ((gE Γ).2.1 24)), (1, .int a1), (2, .int a2), (3, .int a3), (6, .int v4)]) dX2_waysOfNonterminal_59 (by decide) (fun _ => rfl) (fun u15 => ?_)
  exact rf_sub [1, 2, 3, 4, 0, 5] rfl (hj10 u15 s12 trivial)

def fX1_letter (t : Nat) (a1 : Int32) (s0 : PH) : Option (Int32 × PH) :=
(ra 8 a1 (s0.1 (cId t 1)) fun (v1 : Int32) =>
(some (v1, s0)))
set_option maxRecDepth 20000 in
set_option maxHeartbeats 2000000 in
theorem mX1_letter (l : Launch) (t : Nat) (a1 : Int32) (s0 : PH) (ht : t < 2) : Cti 148 l yX1_letter cX1_letter 2 (some .int) (rmOf 0 0) (fun E => [.ref (E.2.1 (cId t 0)), .int a1]) s0 (fX1_letter t a1 s0) := by
  refine Cti.of (by decide) rfl (lv := fun E => [(0, .ref (E.2.1 (cId t 0))), (1, .int a1)]) (fun _ => Nat.le_of_ble_eq_true rfl) (fun _ => rfl) (fun Γ hΓ _ C => ?_)
  subst hΓ
  unfold fX1_letter
  refine rf_aload_n C dX1_letter_0 rfl 0 rfl ?_
  refine rf_get C (v := .ref ((gE Γ).2.1 (cId t 1))) cfX1 flX1_9 (by decide) (oX1 ht) rfl dX1_letter_1 ?_
  refine rf_iload_n C dX1_letter_4 rfl 1 rfl ?_
  refine rf_iald C (arC1 ht) dX1_letter_5 (fun v1 => ?_)
  exact rf_iret C dX1_letter_6

def fX2_waysOfLetter (a1 : Int32) (a2 : Int32) (a3 : Int32) (s0 : PH) : Option (Int32 × PH) :=
(if (s0.1 24 7) ≤ a2 then
(some ((nI 0), s0))
else
(bd (fX1_letter 0 a2 s0) fun (r2 : Int32) (s1 : PH) =>
(if r2 = a1 then
(ra 7218 ((a3 + a2) + (nI 1)) (s1.1 26) fun (v3 : Int32) =>
(some (v3, s1)))
else
(some ((nI 0), s1)))))
set_option maxRecDepth 20000 in
set_option maxHeartbeats 2000000 in
theorem mX2_waysOfLetter (l : Launch) (a1 : Int32) (a2 : Int32) (a3 : Int32) (s0 : PH) : Cti 148 l yX2_waysOfLetter cX2_waysOfLetter 4 (some .int) (rmOf 1 21) (fun E => [.ref (E.2.1 24), .int a1, .int a2, .int a3]) s0 (fX2_waysOfLetter a1 a2 a3 s0) := by
  refine Cti.of (by decide) rfl (lv := fun E => [(0, .ref (E.2.1 24)), (1, .int a1), (2, .int a2), (3, .int a3)]) (fun _ => Nat.le_of_ble_eq_true rfl) (fun _ => rfl) (fun Γ hΓ _ C => ?_)
  subst hΓ
  unfold fX2_waysOfLetter
  refine rf_iload_n C dX2_waysOfLetter_0 rfl 2 rfl ?_
  refine rf_aload_n C dX2_waysOfLetter_1 rfl 0 rfl ?_
  refine rf_get C (v := .int (s0.1 24 7)) cfX2 flX2_40 (by decide) oX2 rfl dX2_waysOfLetter_2 ?_
  refine rf_icmp_ge C 33 dX2_waysOfLetter_5 (by decide) (fun _ => ?_) (fun _ => ?_)
  · refine rf_iconst C (v := (nI 0)) dX2_waysOfLetter_33 rfl ?_
    exact rf_iret C dX2_waysOfLetter_34
  refine rf_aload_n C dX2_waysOfLetter_8 rfl 0 rfl ?_
  refine rf_get C (v := .ref ((gE Γ).2.1 (cId 0 0))) cfX2 flX2_16 (by decide) oX2 rfl dX2_waysOfLetter_9 ?_
  refine rf_iload_n C dX2_waysOfLetter_12 rfl 2 rfl ?_
  refine rf_callVi C (rmc := rmOf 0 0) [.int a2] (by decide) (mX1_letter (gL Γ) 0 a2 s0 (by decide)) mfX1_letter mvX1_letter mlX2_120 rfl (oX1 (by decide)) rfl rfl rfl (Nat.le_of_ble_eq_true rfl) ⟨Nat.le_of_ble_eq_true rfl, Nat.le_of_ble_eq_true rfl⟩ dX2_waysOfLetter_13 (fun r2 s1 => ?_)
  refine rf_iload_n C dX2_waysOfLetter_16 rfl 1 rfl ?_
  refine rf_icmp_ne C 33 dX2_waysOfLetter_17 (by decide) (fun _ => ?_) (fun _ => ?_)
  · refine rf_iconst C (v := (nI 0)) dX2_waysOfLetter_33 rfl ?_
    exact rf_iret C dX2_waysOfLetter_34
  refine rf_aload_n C dX2_waysOfLetter_20 rfl 0 rfl ?_
  refine rf_get C (v := .ref ((gE Γ).2.1 26)) cfX2 flX2_24 (by decide) oX2 rfl dX2_waysOfLetter_21 ?_
  refine rf_iload_n C dX2_waysOfLetter_24 rfl 3 rfl ?_
  refine rf_iload_n C dX2_waysOfLetter_25 rfl 2 rfl ?_
  refine rf_iadd C dX2_waysOfLetter_26 ?_
  refine rf_iconst C (v := (nI 1)) dX2_waysOfLetter_27 rfl ?_
  refine rf_iadd C dX2_waysOfLetter_28 ?_
  refine rf_iald C ar26 dX2_waysOfLetter_29 (fun v3 => ?_)
  refine rf_goto C 34 dX2_waysOfLetter_30 (by decide) ?_
  exact rf_iret C dX2_waysOfLetter_34

def fX2_push (n : Nat) (a1 : Int32) (a2 : Int32) (s0 : PH) : Option (Unit × PH) :=
(if (s0.1 24 9) < (nI 801) then
(lt ((s0.1 24 9) * (nI 9)) fun (v1 : Int32) =>
(lt (si s0 24 9 ((s0.1 24 9) + (nI 1))) fun (s2 : PH) =>
(wa 802 (s2.1 24 9) (lt (si s2 25 (s2.1 24 9).toNatClampNeg a1) fun (s3 : PH) =>
(lt a2 fun (v4 : Int32) =>
(loo2 (fun (recrec7 : Int32 → PH → Option (Unit × PH)) (v5 : Int32) (s6 : PH) =>
(if (s6.1 24 7) < v5 then
(some ((), s6))
else
(bd (fX11_isLetter a1 s6) fun (r9 : Int32) (s8 : PH) =>
(jn (fun (v10 : Int32) (s11 : PH) =>
(wa 7218 (((s6.1 24 9) * (nI 9)) + v5) (lt (si s11 26 (((s6.1 24 9) * (nI 9)) + v5).toNatClampNeg v10) fun (s13 : PH) =>
(lt (v5 + (nI 1)) fun (v14 : Int32) =>
(recrec7 v14 s13))))) (fun (j12 : Int32 → PH → Option (Unit × PH)) =>
(if r9 = 0 then
(bd (fX2_waysOfNonterminal n (a1 - (nI 10)) v5 v1 s8) fun (r16 : Int32) (s15 : PH) =>
(j12 r16 s15))
else
(bd (fX2_waysOfLetter a1 v5 v1 s8) fun (r18 : Int32) (s17 : PH) =>
(j12 r18 s17)))))))) n v4 s3))))))
else
(some ((), s0)))
set_option maxRecDepth 20000 in
set_option maxHeartbeats 2000000 in
theorem mX2_push (l : Launch) (n : Nat) (a1 : Int32) (a2 : Int32) (s0 : PH) : Ctv 148 l yX2_push cX2_push 5 none (rmOf 2 49) (fun E => [.ref (E.2.1 24), .int a1, .int a2]) s0 (fX2_push n a1 a2 s0) := by
  refine Ctv.of (by decide) rfl (lv := fun E => [(0, .ref (E.2.1 24)), (1, .int a1), (2, .int a2)]) (fun _ => Nat.le_of_ble_eq_true rfl) (fun _ => rfl) (fun Γ hΓ _ C => ?_)
  subst hΓ
  unfold fX2_push
  refine rf_aload_n C dX2_push_0 rfl 0 rfl ?_
  refine rf_get C (v := .int (s0.1 24 9)) cfX2 flX2_47 (by decide) oX2 rfl dX2_push_1 ?_
  refine rf_sipush C (v := (nI 801)) dX2_push_4 rfl ?_
  refine rf_icmp_lt C 11 dX2_push_7 (by decide) (fun _ => ?_) (fun _ => ?_)
  · refine rf_aload_n C dX2_push_11 rfl 0 rfl ?_
    refine rf_get C (v := .int (s0.1 24 9)) cfX2 flX2_47 (by decide) oX2 rfl dX2_push_12 ?_
    refine rf_bipush C (v := (nI 9)) dX2_push_15 rfl ?_
    refine rf_imul C dX2_push_17 ?_
    refine rf_istore_n C (fun v1 => [(3, .int v1), (0, .ref ((gE Γ).2.1 24)), (1, .int a1), (2, .int a2)]) dX2_push_18 rfl (by decide) (fun _ => rfl) (fun v1 => ?_)
    refine rf_aload_n C dX2_push_19 rfl 1 rfl ?_
    refine rf_dup C dX2_push_20 rfl ?_
    refine rf_get C (v := .int (s0.1 24 9)) cfX2 flX2_47 (by decide) oX2 rfl dX2_push_21 ?_
    refine rf_iconst C (v := (nI 1)) dX2_push_24 rfl ?_
    refine rf_iadd C dX2_push_25 ?_
    refine rf_puti C cfX2 flX2_47 (by decide) rfl oX2 (fty := .int) rfl rfl rfl (fun _ _ _ _ => Nat.le_of_ble_eq_true rfl) (fun _ _ _ _ => rfl) dX2_push_26 (fun s2 => ?_)
    refine rf_aload_n C dX2_push_29 rfl 1 rfl ?_
    refine rf_get C (v := .ref ((gE Γ).2.1 25)) cfX2 flX2_20 (by decide) oX2 rfl dX2_push_30 ?_
    refine rf_aload_n C dX2_push_33 rfl 1 rfl ?_
    refine rf_get C (v := .int (s2.1 24 9)) cfX2 flX2_47 (by decide) oX2 rfl dX2_push_34 ?_
    refine rf_iload_n C dX2_push_37 rfl 2 rfl ?_
    refine rf_iast C ar25 dX2_push_38 (fun s3 => ?_)
    refine rf_iload_n C dX2_push_39 rfl 3 rfl ?_
    refine rf_istore C (fun v4 => [(4, .int v4), (3, .int v1), (0, .ref ((gE Γ).2.1 24)), (1, .int a1), (2, .int a2)]) dX2_push_40 (by decide) (fun _ => rfl) (fun v4 => ?_)
    refine rf_sub [2, 3, 1, 0] rfl ?_
    refine rf_loo2 (fun _ _ => True) (fun _ s6 => s6) (fun v5 s6 => [(0, .ref ((gE Γ).2.1 24)), (1, .int a1), (3, .int v1), (4, .int v5)]) (fun recrec7 hrec7 v5 s6 _ => ?_) n v4 s3 trivial
    refine rf_iload C dX2_push_42 3 rfl ?_
    refine rf_aload_n C dX2_push_44 rfl 0 rfl ?_
    refine rf_get C (v := .int (s6.1 24 7)) cfX2 flX2_40 (by decide) oX2 rfl dX2_push_45 ?_
    refine rf_icmp_gt C 101 dX2_push_48 (by decide) (fun _ => ?_) (fun _ => ?_)
    · exact rf_vret C dX2_push_101
    refine rf_aload_n C dX2_push_51 rfl 0 rfl ?_
    refine rf_get C (v := .ref ((gE Γ).2.1 26)) cfX2 flX2_24 (by decide) oX2 rfl dX2_push_52 ?_
    refine rf_aload_n C dX2_push_55 rfl 0 rfl ?_
    refine rf_get C (v := .int (s6.1 24 9)) cfX2 flX2_47 (by decide) oX2 rfl dX2_push_56 ?_
    refine rf_bipush C (v := (nI 9)) dX2_push_59 rfl ?_
    refine rf_imul C dX2_push_61 ?_
    refine rf_iload C dX2_push_62 3 rfl ?_
    refine rf_iadd C dX2_push_64 ?_
    refine rf_iload_n C dX2_push_65 rfl 1 rfl ?_
    refine rf_callSNi C (rmc := rmOf 0 0) [.int a1] (by decide) (mX11_isLetter (gL Γ) a1 s6) mfX11_isLetter msX11_isLetter (by decide) rfl rfl rfl (Nat.le_of_ble_eq_true rfl) ⟨Nat.le_of_ble_eq_true rfl, Nat.le_of_ble_eq_true rfl⟩ dX2_push_66 (fun r9 s8 => ?_)
    refine rf_jn2 (fun _ _ => True) (fun _ s11 => s11) (fun v10 s11 => [(0, .ref ((gE Γ).2.1 24)), (1, .int a1), (3, .int v1), (4, .int v5)]) (fun v10 s11 => [.int v10, .int (((s6.1 24 9) * (nI 9)) + v5), .ref ((gE Γ).2.1 26)]) 94 (fun v10 s11 _ => ?_) (fun j12 hj12 => ?_)
    · refine rf_iast C ar26 dX2_push_94 (fun s13 => ?_)
      refine rf_iinc C (fun v14 => [(4, .int v14), (0, .ref ((gE Γ).2.1 24)), (1, .int a1), (3, .int v1)]) dX2_push_95 3 rfl rfl (by decide) (fun _ => rfl) (fun v14 => ?_)
      refine rf_goto C 42 dX2_push_98 (by decide) ?_
      exact rf_sub [1, 2, 3, 0] rfl (hrec7 v14 s13 trivial)
    refine rf_if_eq C 83 dX2_push_69 (by decide) (fun _ => ?_) (fun _ => ?_)
    · refine rf_aload_n C dX2_push_83 rfl 0 rfl ?_
      refine rf_iload_n C dX2_push_84 rfl 1 rfl ?_
      refine rf_bipush C (v := (nI 10)) dX2_push_85 rfl ?_
      refine rf_isub C dX2_push_87 ?_
      refine rf_iload C dX2_push_88 3 rfl ?_
      refine rf_iload_n C dX2_push_90 rfl 2 rfl ?_
      refine rf_callVi C (rmc := rmOf 1 23) [.int (a1 - (nI 10)), .int v5, .int v1] (by decide) (mX2_waysOfNonterminal (gL Γ) n (a1 - (nI 10)) v5 v1 s8) mfX2_waysOfNonterminal mvX2_waysOfNonterminal mlX2_117 rfl oX2 rfl rfl rfl (Nat.le_of_ble_eq_true rfl) ⟨Nat.le_of_ble_eq_true rfl, Nat.le_of_ble_eq_true rfl⟩ dX2_push_91 (fun r16 s15 => ?_)
      exact rf_sub [0, 1, 2, 3] rfl (hj12 r16 s15 trivial)
    refine rf_aload_n C dX2_push_72 rfl 0 rfl ?_
    refine rf_iload_n C dX2_push_73 rfl 1 rfl ?_
    refine rf_iload C dX2_push_74 3 rfl ?_
    refine rf_iload_n C dX2_push_76 rfl 2 rfl ?_
    refine rf_callVi C (rmc := rmOf 1 21) [.int a1, .int v5, .int v1] (by decide) (mX2_waysOfLetter (gL Γ) a1 v5 v1 s8) mfX2_waysOfLetter mvX2_waysOfLetter mlX2_114 rfl oX2 rfl rfl rfl (Nat.le_of_ble_eq_true rfl) ⟨Nat.le_of_ble_eq_true rfl, Nat.le_of_ble_eq_true rfl⟩ dX2_push_77 (fun r18 s17 => ?_)
    refine rf_goto C 94 dX2_push_80 (by decide) ?_
    exact rf_sub [0, 1, 2, 3] rfl (hj12 r18 s17 trivial)
  exact rf_vret C dX2_push_10

def fX2_startStack (n : Nat) (a1 : Int32) (s0 : PH) : Option (Unit × PH) :=
(lt (nI 0) fun (v1 : Int32) =>
(loo2 (fun (recrec4 : Int32 → PH → Option (Unit × PH)) (v2 : Int32) (s3 : PH) =>
(if (s3.1 24 7) < v2 then
(lt (si s3 24 9 (nI 0)) fun (s5 : PH) =>
(bd (fX2_push n a1 (nI 0) s5) fun _ (s6 : PH) =>
(some ((), s6))))
else
(jn (fun (v7 : Int32) (s8 : PH) =>
(wa 7218 v2 (lt (si s8 26 v2.toNatClampNeg v7) fun (s10 : PH) =>
(lt (v2 + (nI 1)) fun (v11 : Int32) =>
(recrec4 v11 s10))))) (fun (j9 : Int32 → PH → Option (Unit × PH)) =>
(if v2 = (s3.1 24 7) then
(j9 (nI 1) s3)
else
(j9 (nI 0) s3)))))) n v1 s0))
set_option maxRecDepth 20000 in
set_option maxHeartbeats 2000000 in
theorem mX2_startStack (l : Launch) (n : Nat) (a1 : Int32) (s0 : PH) : Ctv 148 l yX2_startStack cX2_startStack 3 none (rmOf 3 73) (fun E => [.ref (E.2.1 24), .int a1]) s0 (fX2_startStack n a1 s0) := by
  refine Ctv.of (by decide) rfl (lv := fun E => [(0, .ref (E.2.1 24)), (1, .int a1)]) (fun _ => Nat.le_of_ble_eq_true rfl) (fun _ => rfl) (fun Γ hΓ _ C => ?_)
  subst hΓ
  unfold fX2_startStack
  refine rf_iconst C (v := (nI 0)) dX2_startStack_0 rfl ?_
  refine rf_istore_n C (fun v1 => [(2, .int v1), (0, .ref ((gE Γ).2.1 24)), (1, .int a1)]) dX2_startStack_1 rfl (by decide) (fun _ => rfl) (fun v1 => ?_)
  refine rf_sub [1, 2, 0] rfl ?_
  refine rf_loo2 (fun _ _ => True) (fun _ s3 => s3) (fun v2 s3 => [(0, .ref ((gE Γ).2.1 24)), (1, .int a1), (2, .int v2)]) (fun recrec4 hrec4 v2 s3 _ => ?_) n v1 s0 trivial
  refine rf_iload_n C dX2_startStack_2 rfl 2 rfl ?_
  refine rf_aload_n C dX2_startStack_3 rfl 0 rfl ?_
  refine rf_get C (v := .int (s3.1 24 7)) cfX2 flX2_40 (by decide) oX2 rfl dX2_startStack_4 ?_
  refine rf_icmp_gt C 35 dX2_startStack_7 (by decide) (fun _ => ?_) (fun _ => ?_)
  · refine rf_aload_n C dX2_startStack_35 rfl 0 rfl ?_
    refine rf_iconst C (v := (nI 0)) dX2_startStack_36 rfl ?_
    refine rf_puti C cfX2 flX2_47 (by decide) rfl oX2 (fty := .int) rfl rfl rfl (fun _ _ _ _ => Nat.le_of_ble_eq_true rfl) (fun _ _ _ _ => rfl) dX2_startStack_37 (fun s5 => ?_)
    refine rf_aload_n C dX2_startStack_40 rfl 0 rfl ?_
    refine rf_iload_n C dX2_startStack_41 rfl 1 rfl ?_
    refine rf_iconst C (v := (nI 0)) dX2_startStack_42 rfl ?_
    refine rf_callVv C (rmc := rmOf 2 49) [.int a1, .int (nI 0)] (by decide) (mX2_push (gL Γ) n a1 (nI 0) s5) mfX2_push mvX2_push mlX2_98 rfl oX2 rfl rfl rfl (Nat.le_of_ble_eq_true rfl) ⟨Nat.le_of_ble_eq_true rfl, Nat.le_of_ble_eq_true rfl⟩ dX2_startStack_43 (fun s6 => ?_)
    exact rf_vret C dX2_startStack_46
  refine rf_aload_n C dX2_startStack_10 rfl 0 rfl ?_
  refine rf_get C (v := .ref ((gE Γ).2.1 26)) cfX2 flX2_24 (by decide) oX2 rfl dX2_startStack_11 ?_
  refine rf_iload_n C dX2_startStack_14 rfl 2 rfl ?_
  refine rf_iload_n C dX2_startStack_15 rfl 2 rfl ?_
  refine rf_aload_n C dX2_startStack_16 rfl 0 rfl ?_
  refine rf_get C (v := .int (s3.1 24 7)) cfX2 flX2_40 (by decide) oX2 rfl dX2_startStack_17 ?_
  refine rf_jn2 (fun _ _ => True) (fun _ s8 => s8) (fun v7 s8 => [(0, .ref ((gE Γ).2.1 24)), (1, .int a1), (2, .int v2)]) (fun v7 s8 => [.int v7, .int v2, .ref ((gE Γ).2.1 26)]) 28 (fun v7 s8 _ => ?_) (fun j9 hj9 => ?_)
  · refine rf_iast C ar26 dX2_startStack_28 (fun s10 => ?_)
    refine rf_iinc C (fun v11 => [(2, .int v11), (0, .ref ((gE Γ).2.1 24)), (1, .int a1)]) dX2_startStack_29 2 rfl rfl (by decide) (fun _ => rfl) (fun v11 => ?_)
    refine rf_goto C 2 dX2_startStack_32 (by decide) ?_
    exact rf_sub [1, 2, 0] rfl (hrec4 v11 s10 trivial)
  refine rf_icmp_ne C 27 dX2_startStack_20 (by decide) (fun _ => ?_) (fun _ => ?_)
  · refine rf_iconst C (v := (nI 0)) dX2_startStack_27 rfl ?_
    exact rf_sub [0, 1, 2] rfl (hj9 (nI 0) s3 trivial)
  refine rf_iconst C (v := (nI 1)) dX2_startStack_23 rfl ?_
  refine rf_goto C 28 dX2_startStack_24 (by decide) ?_
  exact rf_sub [0, 1, 2] rfl (hj9 (nI 1) s3 trivial)

def fX2_replace (n : Nat) (a1 : Nat) (a2 : Int32) (a3 : Int32) (s0 : PH) : Option (Int32 × PH) :=
(lt (s0.1 24 9) fun (v1 : Int32) =>
(bd (fX4_begin a1 a2 s0) fun (r3 : Int32) (s2 : PH) =>
(lt r3 fun (v4 : Int32) =>
(loo2 (fun (recrec7 : Int32 → PH → Option (Int32 × PH)) (v5 : Int32) (s6 : PH) =>
(bd (fX4_end a1 a2 s6) fun (r9 : Int32) (s8 : PH) =>
(if r9 ≤ v5 then
(some ((-9 : Int32), s8))
else
(bd (fX4_length a1 v5 s8) fun (r11 : Int32) (s10 : PH) =>
(lt (r11 - (nI 1)) fun (v12 : Int32) =>
(loo2 (fun (recrec15 : Int32 → PH → Option (Int32 × PH)) (v13 : Int32) (s14 : PH) =>
(if v13 < 0 then
(ra 7218 (((s14.1 24 9) * (nI 9)) + a3) (s14.1 26) fun (v16 : Int32) =>
(lt v16 fun (v17 : Int32) =>
(if v17 ≤ (s14.1 24 10) then
(lt (si s14 24 10 ((s14.1 24 10) - v17)) fun (s18 : PH) =>
(lt (si s18 24 9 v1) fun (s19 : PH) =>
(lt (v5 + (nI 1)) fun (v20 : Int32) =>
(recrec7 v20 s19))))
else
(some (v5, s14)))))
else
(bd (fX4_symbolAt a1 v5 v13 s14) fun (r22 : Int32) (s21 : PH) =>
(bd (fX2_push n r22 a3 s21) fun _ (s23 : PH) =>
(lt (v13 + (-1 : Int32)) fun (v24 : Int32) =>
(recrec15 v24 s23)))))) n v12 s10)))))) n v4 s2))))
set_option maxRecDepth 20000 in
set_option maxHeartbeats 2000000 in
theorem mX2_replace (l : Launch) (n : Nat) (a1 : Nat) (a2 : Int32) (a3 : Int32) (s0 : PH) (ha1 : a1 < 6) : Cti 148 l yX2_replace cX2_replace 7 (some .int) (rmOf 3 73) (fun E => [.ref (E.2.1 24), .ref (E.2.1 (gId a1 0)), .int a2, .int a3]) s0 (fX2_replace n a1 a2 a3 s0) := by
  refine Cti.of (by decide) rfl (lv := fun E => [(0, .ref (E.2.1 24)), (1, .ref (E.2.1 (gId a1 0))), (2, .int a2), (3, .int a3)]) (fun _ => Nat.le_of_ble_eq_true rfl) (fun _ => rfl) (fun Γ hΓ _ C => ?_)
  subst hΓ
  unfold fX2_replace
  refine rf_aload_n C dX2_replace_0 rfl 0 rfl ?_
  refine rf_get C (v := .int (s0.1 24 9)) cfX2 flX2_47 (by decide) oX2 rfl dX2_replace_1 ?_
  refine rf_istore C (fun v1 => [(4, .int v1), (0, .ref ((gE Γ).2.1 24)), (1, .ref ((gE Γ).2.1 (gId a1 0))), (2, .int a2), (3, .int a3)]) dX2_replace_4 (by decide) (fun _ => rfl) (fun v1 => ?_)
  refine rf_aload_n C dX2_replace_6 rfl 2 rfl ?_
  refine rf_iload_n C dX2_replace_7 rfl 3 rfl ?_
  refine rf_callVi C (rmc := rmOf 0 0) [.int a2] (by decide) (mX4_begin (gL Γ) a1 a2 s0 ha1) mfX4_begin mvX4_begin mlX2_101 rfl (oX4 ha1) rfl rfl rfl (Nat.le_of_ble_eq_true rfl) ⟨Nat.le_of_ble_eq_true rfl, Nat.le_of_ble_eq_true rfl⟩ dX2_replace_8 (fun r3 s2 => ?_)
  refine rf_istore C (fun v4 => [(5, .int v4), (4, .int v1), (0, .ref ((gE Γ).2.1 24)), (1, .ref ((gE Γ).2.1 (gId a1 0))), (2, .int a2), (3, .int a3)]) dX2_replace_11 (by decide) (fun _ => rfl) (fun v4 => ?_)
  refine rf_sub [2, 3, 4, 5, 1, 0] rfl ?_
  refine rf_loo2 (fun _ _ => True) (fun _ s6 => s6) (fun v5 s6 => [(0, .ref ((gE Γ).2.1 24)), (1, .ref ((gE Γ).2.1 (gId a1 0))), (2, .int a2), (3, .int a3), (4, .int v1), (5, .int v5)]) (fun recrec7 hrec7 v5 s6 _ => ?_) n v4 s2 trivial
  refine rf_iload C dX2_replace_13 5 rfl ?_
  refine rf_aload_n C dX2_replace_15 rfl 1 rfl ?_
  refine rf_iload_n C dX2_replace_16 rfl 2 rfl ?_
  refine rf_callVi C (rmc := rmOf 0 0) [.int a2] (by decide) (mX4_end (gL Γ) a1 a2 s6 ha1) mfX4_end mvX4_end mlX2_104 rfl (oX4 ha1) rfl rfl rfl (Nat.le_of_ble_eq_true rfl) ⟨Nat.le_of_ble_eq_true rfl, Nat.le_of_ble_eq_true rfl⟩ dX2_replace_17 (fun r9 s8 => ?_)
  refine rf_icmp_ge C 108 dX2_replace_20 (by decide) (fun _ => ?_) (fun _ => ?_)
  · refine rf_bipush C (v := (-9 : Int32)) dX2_replace_108 rfl ?_
    exact rf_iret C dX2_replace_110
  refine rf_aload_n C dX2_replace_23 rfl 1 rfl ?_
  refine rf_iload C dX2_replace_24 5 rfl ?_
  refine rf_callVi C (rmc := rmOf 0 0) [.int v5] (by decide) (mX4_length (gL Γ) a1 v5 s8 ha1) mfX4_length mvX4_length mlX2_107 rfl (oX4 ha1) rfl rfl rfl (Nat.le_of_ble_eq_true rfl) ⟨Nat.le_of_ble_eq_true rfl, Nat.le_of_ble_eq_true rfl⟩ dX2_replace_26 (fun r11 s10 => ?_)
  refine rf_iconst C (v := (nI 1)) dX2_replace_29 rfl ?_
  refine rf_isub C dX2_replace_30 ?_
  refine rf_istore C (fun v12 => [(6, .int v12), (0, .ref ((gE Γ).2.1 24)), (1, .ref ((gE Γ).2.1 (gId a1 0))), (2, .int a2), (3, .int a3), (4, .int v1), (5, .int v5)]) dX2_replace_31 (by decide) (fun _ => rfl) (fun v12 => ?_)
  refine rf_sub [1, 2, 3, 4, 5, 6, 0] rfl ?_
  refine rf_loo2 (fun _ _ => True) (fun _ s14 => s14) (fun v13 s14 => [(0, .ref ((gE Γ).2.1 24)), (1, .ref ((gE Γ).2.1 (gId a1 0))), (2, .int a2), (3, .int a3), (4, .int v1), (5, .int v5), (6, .int v13)]) (fun recrec15 hrec15 v13 s14 _ => ?_) n v12 s10 trivial
  refine rf_iload C dX2_replace_33 6 rfl ?_
  refine rf_if_lt C 57 dX2_replace_35 (by decide) (fun _ => ?_) (fun _ => ?_)
  · refine rf_aload_n C dX2_replace_57 rfl 0 rfl ?_
    refine rf_get C (v := .ref ((gE Γ).2.1 26)) cfX2 flX2_24 (by decide) oX2 rfl dX2_replace_58 ?_
    refine rf_aload_n C dX2_replace_61 rfl 0 rfl ?_
    refine rf_get C (v := .int (s14.1 24 9)) cfX2 flX2_47 (by decide) oX2 rfl dX2_replace_62 ?_
    refine rf_bipush C (v := (nI 9)) dX2_replace_65 rfl ?_
    refine rf_imul C dX2_replace_67 ?_
    refine rf_iload_n C dX2_replace_68 rfl 3 rfl ?_
    refine rf_iadd C dX2_replace_69 ?_
    refine rf_iald C ar26 dX2_replace_70 (fun v16 => ?_)
    refine rf_istore C (fun v17 => [(6, .int v17), (0, .ref ((gE Γ).2.1 24)), (1, .ref ((gE Γ).2.1 (gId a1 0))), (2, .int a2), (3, .int a3), (4, .int v1), (5, .int v5)]) dX2_replace_71 (by decide) (fun _ => rfl) (fun v17 => ?_)
    refine rf_aload_n C dX2_replace_73 rfl 1 rfl ?_
    refine rf_get C (v := .int (s14.1 24 10)) cfX2 flX2_50 (by decide) oX2 rfl dX2_replace_74 ?_
    refine rf_iload C dX2_replace_77 0 rfl ?_
    refine rf_icmp_ge C 85 dX2_replace_79 (by decide) (fun _ => ?_) (fun _ => ?_)
    · refine rf_aload_n C dX2_replace_85 rfl 1 rfl ?_
      refine rf_dup C dX2_replace_86 rfl ?_
      refine rf_get C (v := .int (s14.1 24 10)) cfX2 flX2_50 (by decide) oX2 rfl dX2_replace_87 ?_
      refine rf_iload C dX2_replace_90 0 rfl ?_
      refine rf_isub C dX2_replace_92 ?_
      refine rf_puti C cfX2 flX2_50 (by decide) rfl oX2 (fty := .int) rfl rfl rfl (fun _ _ _ _ => Nat.le_of_ble_eq_true rfl) (fun _ _ _ _ => rfl) dX2_replace_93 (fun s18 => ?_)
      refine rf_aload_n C dX2_replace_96 rfl 1 rfl ?_
      refine rf_iload C dX2_replace_97 5 rfl ?_
      refine rf_puti C cfX2 flX2_47 (by decide) rfl oX2 (fty := .int) rfl rfl rfl (fun _ _ _ _ => Nat.le_of_ble_eq_true rfl) (fun _ _ _ _ => rfl) dX2_replace_99 (fun s19 => ?_)
      refine rf_iinc C (fun v20 => [(5, .int v20), (6, .int v17), (0, .ref ((gE Γ).2.1 24)), (1, .ref ((gE Γ).2.1 (gId a1 0))), (2, .int a2), (3, .int a3), (4, .int v1)]) dX2_replace_102 6 rfl rfl (by decide) (fun _ => rfl) (fun v20 => ?_)
      refine rf_goto C 13 dX2_replace_105 (by decide) ?_
      exact rf_sub [2, 3, 4, 5, 6, 0] rfl (hrec7 v20 s19 trivial)
    refine rf_iload C dX2_replace_82 6 rfl ?_
    exact rf_iret C dX2_replace_84
  refine rf_aload_n C dX2_replace_38 rfl 0 rfl ?_
  refine rf_aload_n C dX2_replace_39 rfl 1 rfl ?_
  refine rf_iload C dX2_replace_40 5 rfl ?_
  refine rf_iload C dX2_replace_42 6 rfl ?_
  refine rf_callVi C (rmc := rmOf 0 0) [.int v5, .int v13] (by decide) (mX4_symbolAt (gL Γ) a1 v5 v13 s14 ha1) mfX4_symbolAt mvX4_symbolAt mlX2_110 rfl (oX4 ha1) rfl rfl rfl (Nat.le_of_ble_eq_true rfl) ⟨Nat.le_of_ble_eq_true rfl, Nat.le_of_ble_eq_true rfl⟩ dX2_replace_44 (fun r22 s21 => ?_)
  refine rf_iload_n C dX2_replace_47 rfl 3 rfl ?_
  refine rf_callVv C (rmc := rmOf 2 49) [.int r22, .int a3] (by decide) (mX2_push (gL Γ) n r22 a3 s21) mfX2_push mvX2_push mlX2_98 rfl oX2 rfl rfl rfl (Nat.le_of_ble_eq_true rfl) ⟨Nat.le_of_ble_eq_true rfl, Nat.le_of_ble_eq_true rfl⟩ dX2_replace_48 (fun s23 => ?_)
  refine rf_iinc C (fun v24 => [(6, .int v24), (0, .ref ((gE Γ).2.1 24)), (1, .ref ((gE Γ).2.1 (gId a1 0))), (2, .int a2), (3, .int a3), (4, .int v1), (5, .int v5)]) dX2_replace_51 6 rfl rfl (by decide) (fun _ => rfl) (fun v24 => ?_)
  refine rf_goto C 33 dX2_replace_54 (by decide) ?_
  exact rf_sub [1, 2, 3, 4, 5, 6, 0] rfl (hrec15 v24 s23 trivial)

def fX2_list (n : Nat) (a1 : Nat) (a2 : Int32) (s0 : PH) : Option (Int32 × PH) :=
(lt (nI 0) fun (v1 : Int32) =>
(lt (nI 0) fun (v2 : Int32) =>
(lt (si s0 24 10 a2) fun (s3 : PH) =>
(bd (fX4_start a1 s3) fun (r5 : Int32) (s4 : PH) =>
(bd (fX2_startStack n ((nI 10) + r5) s4) fun _ (s6 : PH) =>
(lt (nI 0) fun (v7 : Int32) =>
(loo4 (fun (recrec12 : Int32 → Int32 → Int32 → PH → Option (Int32 × PH)) (v8 : Int32) (v9 : Int32) (v10 : Int32) (s11 : PH) =>
(if (nI 208) ≤ v10 then
(some (v8, s11))
else
(if (s11.1 24 9) ≤ 0 then
(some (v8, s11))
else
(if (nI 200) ≤ v8 then
(some (v8, s11))
else
(ra 802 (s11.1 24 9) (s11.1 25) fun (v13 : Int32) =>
(lt v13 fun (v14 : Int32) =>
(lt (si s11 24 9 ((s11.1 24 9) - (nI 1))) fun (s15 : PH) =>
(bd (fX11_isLetter v14 s15) fun (r17 : Int32) (s16 : PH) =>
(jn (fun (v18 : Int32) (v19 : Int32) (s20 : PH) =>
(lt (v10 + (nI 1)) fun (v22 : Int32) =>
(recrec12 v18 v19 v22 s20))) (fun (j21 : Int32 → Int32 → PH → Option (Int32 × PH)) =>
(if r17 = 0 then
(bd (fX2_replace n a1 (v14 - (nI 10)) v9 s16) fun (r24 : Int32) (s23 : PH) =>
(wa 400 ((a2 * (nI 200)) + v8) (lt (si s23 27 ((a2 * (nI 200)) + v8).toNatClampNeg r24) fun (s25 : PH) =>
(lt (v8 + (nI 1)) fun (v26 : Int32) =>
(j21 v26 v9 s25)))))
else
(lt (v9 + (nI 1)) fun (v27 : Int32) =>
(j21 v8 v27 s16))))))))))))) n v1 v2 v7 s6)))))))
set_option maxRecDepth 20000 in
set_option maxHeartbeats 2000000 in
theorem mX2_list (l : Launch) (n : Nat) (a1 : Nat) (a2 : Int32) (s0 : PH) (ha1 : a1 < 6) : Cti 148 l yX2_list cX2_list 7 (some .int) (rmOf 4 99) (fun E => [.ref (E.2.1 24), .ref (E.2.1 (gId a1 0)), .int a2]) s0 (fX2_list n a1 a2 s0) := by
  refine Cti.of (by decide) rfl (lv := fun E => [(0, .ref (E.2.1 24)), (1, .ref (E.2.1 (gId a1 0))), (2, .int a2)]) (fun _ => Nat.le_of_ble_eq_true rfl) (fun _ => rfl) (fun Γ hΓ _ C => ?_)
  subst hΓ
  unfold fX2_list
  refine rf_iconst C (v := (nI 0)) dX2_list_0 rfl ?_
  refine rf_istore_n C (fun v1 => [(3, .int v1), (0, .ref ((gE Γ).2.1 24)), (1, .ref ((gE Γ).2.1 (gId a1 0))), (2, .int a2)]) dX2_list_1 rfl (by decide) (fun _ => rfl) (fun v1 => ?_)
  refine rf_iconst C (v := (nI 0)) dX2_list_2 rfl ?_
  refine rf_istore C (fun v2 => [(4, .int v2), (3, .int v1), (0, .ref ((gE Γ).2.1 24)), (1, .ref ((gE Γ).2.1 (gId a1 0))), (2, .int a2)]) dX2_list_3 (by decide) (fun _ => rfl) (fun v2 => ?_)
  refine rf_aload_n C dX2_list_5 rfl 2 rfl ?_
  refine rf_iload_n C dX2_list_6 rfl 4 rfl ?_
  refine rf_puti C cfX2 flX2_50 (by decide) rfl oX2 (fty := .int) rfl rfl rfl (fun _ _ _ _ => Nat.le_of_ble_eq_true rfl) (fun _ _ _ _ => rfl) dX2_list_7 (fun s3 => ?_)
  refine rf_aload_n C dX2_list_10 rfl 2 rfl ?_
  refine rf_bipush C (v := (nI 10)) dX2_list_11 rfl ?_
  refine rf_aload_n C dX2_list_13 rfl 3 rfl ?_
  refine rf_callVi C (rmc := rmOf 0 0) [] (by decide) (mX4_start (gL Γ) a1 s3 ha1) mfX4_start mvX4_start mlX2_74 rfl (oX4 ha1) rfl rfl rfl (Nat.le_of_ble_eq_true rfl) ⟨Nat.le_of_ble_eq_true rfl, Nat.le_of_ble_eq_true rfl⟩ dX2_list_14 (fun r5 s4 => ?_)
  refine rf_iadd C dX2_list_17 ?_
  refine rf_callVv C (rmc := rmOf 3 73) [.int ((nI 10) + r5)] (by decide) (mX2_startStack (gL Γ) n ((nI 10) + r5) s4) mfX2_startStack mvX2_startStack mlX2_87 rfl oX2 rfl rfl rfl (Nat.le_of_ble_eq_true rfl) ⟨Nat.le_of_ble_eq_true rfl, Nat.le_of_ble_eq_true rfl⟩ dX2_list_18 (fun s6 => ?_)
  refine rf_iconst C (v := (nI 0)) dX2_list_21 rfl ?_
  refine rf_istore C (fun v7 => [(5, .int v7), (4, .int v2), (3, .int v1), (0, .ref ((gE Γ).2.1 24)), (1, .ref ((gE Γ).2.1 (gId a1 0))), (2, .int a2)]) dX2_list_22 (by decide) (fun _ => rfl) (fun v7 => ?_)
  refine rf_sub [3, 4, 5, 2, 1, 0] rfl ?_
  refine rf_loo4 (fun _ _ _ _ => True) (fun _ _ _ s11 => s11) (fun v8 v9 v10 s11 => [(0, .ref ((gE Γ).2.1 24)), (1, .ref ((gE Γ).2.1 (gId a1 0))), (2, .int a2), (3, .int v8), (4, .int v9), (5, .int v10)]) (fun recrec12 hrec12 v8 v9 v10 s11 _ => ?_) n v1 v2 v7 s6 trivial
  refine rf_iload C dX2_list_24 5 rfl ?_
  refine rf_sipush C (v := (nI 208)) dX2_list_26 rfl ?_
  refine rf_icmp_ge C 114 dX2_list_29 (by decide) (fun _ => ?_) (fun _ => ?_)
  · refine rf_iload_n C dX2_list_114 rfl 3 rfl ?_
    exact rf_iret C dX2_list_115
  refine rf_aload_n C dX2_list_32 rfl 0 rfl ?_
  refine rf_get C (v := .int (s11.1 24 9)) cfX2 flX2_47 (by decide) oX2 rfl dX2_list_33 ?_
  refine rf_if_le C 114 dX2_list_36 (by decide) (fun _ => ?_) (fun _ => ?_)
  · refine rf_iload_n C dX2_list_114 rfl 3 rfl ?_
    exact rf_iret C dX2_list_115
  refine rf_iload_n C dX2_list_39 rfl 3 rfl ?_
  refine rf_sipush C (v := (nI 200)) dX2_list_40 rfl ?_
  refine rf_icmp_ge C 114 dX2_list_43 (by decide) (fun _ => ?_) (fun _ => ?_)
  · refine rf_iload_n C dX2_list_114 rfl 3 rfl ?_
    exact rf_iret C dX2_list_115
  refine rf_aload_n C dX2_list_46 rfl 0 rfl ?_
  refine rf_get C (v := .ref ((gE Γ).2.1 25)) cfX2 flX2_20 (by decide) oX2 rfl dX2_list_47 ?_
  refine rf_aload_n C dX2_list_50 rfl 0 rfl ?_
  refine rf_get C (v := .int (s11.1 24 9)) cfX2 flX2_47 (by decide) oX2 rfl dX2_list_51 ?_
  refine rf_iald C ar25 dX2_list_54 (fun v13 => ?_)
  refine rf_istore C (fun v14 => [(6, .int v14), (0, .ref ((gE Γ).2.1 24)), (1, .ref ((gE Γ).2.1 (gId a1 0))), (2, .int a2), (3, .int v8), (4, .int v9), (5, .int v10)]) dX2_list_55 (by decide) (fun _ => rfl) (fun v14 => ?_)
  refine rf_aload_n C dX2_list_57 rfl 1 rfl ?_
  refine rf_dup C dX2_list_58 rfl ?_
  refine rf_get C (v := .int (s11.1 24 9)) cfX2 flX2_47 (by decide) oX2 rfl dX2_list_59 ?_
  refine rf_iconst C (v := (nI 1)) dX2_list_62 rfl ?_
  refine rf_isub C dX2_list_63 ?_
  refine rf_puti C cfX2 flX2_47 (by decide) rfl oX2 (fty := .int) rfl rfl rfl (fun _ _ _ _ => Nat.le_of_ble_eq_true rfl) (fun _ _ _ _ => rfl) dX2_list_64 (fun s15 => ?_)
  refine rf_iload C dX2_list_67 0 rfl ?_
  refine rf_callSNi C (rmc := rmOf 0 0) [.int v14] (by decide) (mX11_isLetter (gL Γ) v14 s15) mfX11_isLetter msX11_isLetter (by decide) rfl rfl rfl (Nat.le_of_ble_eq_true rfl) ⟨Nat.le_of_ble_eq_true rfl, Nat.le_of_ble_eq_true rfl⟩ dX2_list_69 (fun r17 s16 => ?_)
  refine rf_jn3 (fun _ _ _ => True) (fun _ _ s20 => s20) (fun v18 v19 s20 => [(0, .ref ((gE Γ).2.1 24)), (1, .ref ((gE Γ).2.1 (gId a1 0))), (2, .int a2), (3, .int v18), (4, .int v19), (5, .int v10)]) (fun v18 v19 s20 => []) 108 (fun v18 v19 s20 _ => ?_) (fun j21 hj21 => ?_)
  · refine rf_iinc C (fun v22 => [(5, .int v22), (0, .ref ((gE Γ).2.1 24)), (1, .ref ((gE Γ).2.1 (gId a1 0))), (2, .int a2), (3, .int v18), (4, .int v19)]) dX2_list_108 5 rfl rfl (by decide) (fun _ => rfl) (fun v22 => ?_)
    refine rf_goto C 24 dX2_list_111 (by decide) ?_
    exact rf_sub [1, 2, 3, 4, 5, 0] rfl (hrec12 v18 v19 v22 s20 trivial)
  refine rf_if_eq C 81 dX2_list_72 (by decide) (fun _ => ?_) (fun _ => ?_)
  · refine rf_aload_n C dX2_list_81 rfl 1 rfl ?_
    refine rf_get C (v := .ref ((gE Γ).2.1 27)) cfX2 flX2_27 (by decide) oX2 rfl dX2_list_82 ?_
    refine rf_iload_n C dX2_list_85 rfl 3 rfl ?_
    refine rf_sipush C (v := (nI 200)) dX2_list_86 rfl ?_
    refine rf_imul C dX2_list_89 ?_
    refine rf_iload_n C dX2_list_90 rfl 4 rfl ?_
    refine rf_iadd C dX2_list_91 ?_
    refine rf_aload_n C dX2_list_92 rfl 1 rfl ?_
    refine rf_aload_n C dX2_list_93 rfl 2 rfl ?_
    refine rf_iload C dX2_list_94 0 rfl ?_
    refine rf_bipush C (v := (nI 10)) dX2_list_96 rfl ?_
    refine rf_isub C dX2_list_98 ?_
    refine rf_iload C dX2_list_99 5 rfl ?_
    refine rf_callVi C (rmc := rmOf 3 73) [.ref ((gE Γ).2.1 (gId a1 0)), .int (v14 - (nI 10)), .int v9] (by decide) (mX2_replace (gL Γ) n a1 (v14 - (nI 10)) v9 s16 ha1) mfX2_replace mvX2_replace mlX2_94 rfl oX2 rfl rfl rfl (Nat.le_of_ble_eq_true rfl) ⟨Nat.le_of_ble_eq_true rfl, Nat.le_of_ble_eq_true rfl⟩ dX2_list_101 (fun r24 s23 => ?_)
    refine rf_iast C ar27 dX2_list_104 (fun s25 => ?_)
    refine rf_iinc C (fun v26 => [(3, .int v26), (6, .int v14), (0, .ref ((gE Γ).2.1 24)), (1, .ref ((gE Γ).2.1 (gId a1 0))), (2, .int a2), (4, .int v9), (5, .int v10)]) dX2_list_105 4 rfl rfl (by decide) (fun _ => rfl) (fun v26 => ?_)
    exact rf_sub [2, 3, 4, 0, 5, 6] rfl (hj21 v26 v9 s25 trivial)
  refine rf_iinc C (fun v27 => [(4, .int v27), (6, .int v14), (0, .ref ((gE Γ).2.1 24)), (1, .ref ((gE Γ).2.1 (gId a1 0))), (2, .int a2), (3, .int v8), (5, .int v10)]) dX2_list_75 5 rfl rfl (by decide) (fun _ => rfl) (fun v27 => ?_)
  refine rf_goto C 108 dX2_list_78 (by decide) ?_
  exact rf_sub [2, 3, 4, 5, 0, 6] rfl (hj21 v8 v27 s16 trivial)

def fX2_stepAt (n : Nat) (a1 : Nat) (a2 : Int32) (a3 : Int32) (s0 : PH) : Option (Int32 × PH) :=
(jn (fun (s1 : PH) =>
(ra 2 a2 (s1.1 28) fun (v3 : Int32) =>
(if v3 ≤ a3 then
(some ((-9 : Int32), s1))
else
(ra 400 ((a2 * (nI 200)) + a3) (s1.1 27) fun (v4 : Int32) =>
(some (v4, s1)))))) (fun (j2 : PH → Option (Int32 × PH)) =>
(if (s0.1 24 6) = 0 then
(jn (fun (v5 : Int32) (s6 : PH) =>
(wa 2 (nI 0) (lt (si s6 28 (nI 0).toNatClampNeg v5) fun (s8 : PH) =>
(jn (fun (v9 : Int32) (s10 : PH) =>
(wa 2 (nI 1) (lt (si s10 28 (nI 1).toNatClampNeg v9) fun (s12 : PH) =>
(lt (si s12 24 6 (nI 1)) fun (s13 : PH) =>
(j2 s13))))) (fun (j11 : Int32 → PH → Option (Int32 × PH)) =>
(if (s8.1 24 8) ≤ (nI 1) then
(j11 (nI 0) s8)
else
(bd (fX2_list n a1 (nI 1) s8) fun (r15 : Int32) (s14 : PH) =>
(j11 r15 s14)))))))) (fun (j7 : Int32 → PH → Option (Int32 × PH)) =>
(if (s0.1 24 8) ≤ 0 then
(j7 (nI 0) s0)
else
(bd (fX2_list n a1 (nI 0) s0) fun (r17 : Int32) (s16 : PH) =>
(j7 r17 s16)))))
else
(j2 s0))))
set_option maxRecDepth 20000 in
set_option maxHeartbeats 2000000 in
theorem mX2_stepAt (l : Launch) (n : Nat) (a1 : Nat) (a2 : Int32) (a3 : Int32) (s0 : PH) (ha1 : a1 < 6) : Cti 148 l yX2_stepAt cX2_stepAt 4 (some .int) (rmOf 5 125) (fun E => [.ref (E.2.1 24), .ref (E.2.1 (gId a1 0)), .int a2, .int a3]) s0 (fX2_stepAt n a1 a2 a3 s0) := by
  refine Cti.of (by decide) rfl (lv := fun E => [(0, .ref (E.2.1 24)), (1, .ref (E.2.1 (gId a1 0))), (2, .int a2), (3, .int a3)]) (fun _ => Nat.le_of_ble_eq_true rfl) (fun _ => rfl) (fun Γ hΓ _ C => ?_)
  subst hΓ
  unfold fX2_stepAt
  refine rf_aload_n C dX2_stepAt_0 rfl 0 rfl ?_
  refine rf_get C (v := .int (s0.1 24 6)) cfX2 flX2_37 (by decide) oX2 rfl dX2_stepAt_1 ?_
  refine rf_jn1 (fun _ => True) (fun  s1 => s1) (fun s1 => [(0, .ref ((gE Γ).2.1 24)), (2, .int a2), (3, .int a3)]) (fun s1 => []) 59 (fun s1 _ => ?_) (fun j2 hj2 => ?_)
  · refine rf_iload_n C dX2_stepAt_59 rfl 2 rfl ?_
    refine rf_aload_n C dX2_stepAt_60 rfl 0 rfl ?_
    refine rf_get C (v := .ref ((gE Γ).2.1 28)) cfX2 flX2_30 (by decide) oX2 rfl dX2_stepAt_61 ?_
    refine rf_iload_n C dX2_stepAt_64 rfl 1 rfl ?_
    refine rf_iald C ar28 dX2_stepAt_65 (fun v3 => ?_)
    refine rf_icmp_ge C 84 dX2_stepAt_66 (by decide) (fun _ => ?_) (fun _ => ?_)
    · refine rf_bipush C (v := (-9 : Int32)) dX2_stepAt_84 rfl ?_
      exact rf_iret C dX2_stepAt_86
    refine rf_aload_n C dX2_stepAt_69 rfl 0 rfl ?_
    refine rf_get C (v := .ref ((gE Γ).2.1 27)) cfX2 flX2_27 (by decide) oX2 rfl dX2_stepAt_70 ?_
    refine rf_iload_n C dX2_stepAt_73 rfl 1 rfl ?_
    refine rf_sipush C (v := (nI 200)) dX2_stepAt_74 rfl ?_
    refine rf_imul C dX2_stepAt_77 ?_
    refine rf_iload_n C dX2_stepAt_78 rfl 2 rfl ?_
    refine rf_iadd C dX2_stepAt_79 ?_
    refine rf_iald C ar27 dX2_stepAt_80 (fun v4 => ?_)
    refine rf_goto C 86 dX2_stepAt_81 (by decide) ?_
    exact rf_iret C dX2_stepAt_86
  refine rf_if_ne C 59 dX2_stepAt_4 (by decide) (fun _ => ?_) (fun _ => ?_)
  · exact rf_sub [0, 2, 3] rfl (hj2 s0 trivial)
  refine rf_aload_n C dX2_stepAt_7 rfl 0 rfl ?_
  refine rf_get C (v := .ref ((gE Γ).2.1 28)) cfX2 flX2_30 (by decide) oX2 rfl dX2_stepAt_8 ?_
  refine rf_iconst C (v := (nI 0)) dX2_stepAt_11 rfl ?_
  refine rf_aload_n C dX2_stepAt_12 rfl 0 rfl ?_
  refine rf_get C (v := .int (s0.1 24 8)) cfX2 flX2_44 (by decide) oX2 rfl dX2_stepAt_13 ?_
  refine rf_jn2 (fun _ _ => True) (fun _ s6 => s6) (fun v5 s6 => [(0, .ref ((gE Γ).2.1 24)), (1, .ref ((gE Γ).2.1 (gId a1 0))), (2, .int a2), (3, .int a3)]) (fun v5 s6 => [.int v5, .int (nI 0), .ref ((gE Γ).2.1 28)]) 29 (fun v5 s6 _ => ?_) (fun j7 hj7 => ?_)
  · refine rf_iast C ar28 dX2_stepAt_29 (fun s8 => ?_)
    refine rf_aload_n C dX2_stepAt_30 rfl 0 rfl ?_
    refine rf_get C (v := .ref ((gE Γ).2.1 28)) cfX2 flX2_30 (by decide) oX2 rfl dX2_stepAt_31 ?_
    refine rf_iconst C (v := (nI 1)) dX2_stepAt_34 rfl ?_
    refine rf_aload_n C dX2_stepAt_35 rfl 0 rfl ?_
    refine rf_get C (v := .int (s8.1 24 8)) cfX2 flX2_44 (by decide) oX2 rfl dX2_stepAt_36 ?_
    refine rf_iconst C (v := (nI 1)) dX2_stepAt_39 rfl ?_
    refine rf_jn2 (fun _ _ => True) (fun _ s10 => s10) (fun v9 s10 => [(0, .ref ((gE Γ).2.1 24)), (2, .int a2), (3, .int a3)]) (fun v9 s10 => [.int v9, .int (nI 1), .ref ((gE Γ).2.1 28)]) 53 (fun v9 s10 _ => ?_) (fun j11 hj11 => ?_)
    · refine rf_iast C ar28 dX2_stepAt_53 (fun s12 => ?_)
      refine rf_aload_n C dX2_stepAt_54 rfl 0 rfl ?_
      refine rf_iconst C (v := (nI 1)) dX2_stepAt_55 rfl ?_
      refine rf_puti C cfX2 flX2_37 (by decide) rfl oX2 (fty := .boolean) rfl rfl rfl (fun _ _ _ _ => Nat.le_of_ble_eq_true rfl) (fun _ _ _ _ => rfl) dX2_stepAt_56 (fun s13 => ?_)
      exact rf_sub [0, 1, 2] rfl (hj2 s13 trivial)
    refine rf_icmp_le C 52 dX2_stepAt_40 (by decide) (fun _ => ?_) (fun _ => ?_)
    · refine rf_iconst C (v := (nI 0)) dX2_stepAt_52 rfl ?_
      exact rf_sub [0, 2, 3] rfl (hj11 (nI 0) s8 trivial)
    refine rf_aload_n C dX2_stepAt_43 rfl 0 rfl ?_
    refine rf_aload_n C dX2_stepAt_44 rfl 1 rfl ?_
    refine rf_iconst C (v := (nI 1)) dX2_stepAt_45 rfl ?_
    refine rf_callVi C (rmc := rmOf 4 99) [.ref ((gE Γ).2.1 (gId a1 0)), .int (nI 1)] (by decide) (mX2_list (gL Γ) n a1 (nI 1) s8 ha1) mfX2_list mvX2_list mlX2_83 rfl oX2 rfl rfl rfl (Nat.le_of_ble_eq_true rfl) ⟨Nat.le_of_ble_eq_true rfl, Nat.le_of_ble_eq_true rfl⟩ dX2_stepAt_46 (fun r15 s14 => ?_)
    refine rf_goto C 53 dX2_stepAt_49 (by decide) ?_
    exact rf_sub [0, 2, 3] rfl (hj11 r15 s14 trivial)
  refine rf_if_le C 28 dX2_stepAt_16 (by decide) (fun _ => ?_) (fun _ => ?_)
  · refine rf_iconst C (v := (nI 0)) dX2_stepAt_28 rfl ?_
    exact rf_sub [0, 1, 2, 3] rfl (hj7 (nI 0) s0 trivial)
  refine rf_aload_n C dX2_stepAt_19 rfl 0 rfl ?_
  refine rf_aload_n C dX2_stepAt_20 rfl 1 rfl ?_
  refine rf_iconst C (v := (nI 0)) dX2_stepAt_21 rfl ?_
  refine rf_callVi C (rmc := rmOf 4 99) [.ref ((gE Γ).2.1 (gId a1 0)), .int (nI 0)] (by decide) (mX2_list (gL Γ) n a1 (nI 0) s0 ha1) mfX2_list mvX2_list mlX2_83 rfl oX2 rfl rfl rfl (Nat.le_of_ble_eq_true rfl) ⟨Nat.le_of_ble_eq_true rfl, Nat.le_of_ble_eq_true rfl⟩ dX2_stepAt_22 (fun r17 s16 => ?_)
  refine rf_goto C 29 dX2_stepAt_25 (by decide) ?_
  exact rf_sub [0, 1, 2, 3] rfl (hj7 r17 s16 trivial)

def fX11_step (n : Nat) (a1 : Int32) (a2 : Int32) (s0 : PH) : Option (Int32 × PH) :=
(if a1 < 0 then
(some ((-1 : Int32), s0))
else
(if (nI 1) < a1 then
(some ((-1 : Int32), s0))
else
(if a2 < 0 then
(some ((-1 : Int32), s0))
else
(if a2 < (nI 200) then
(bd (fX11_derivations n s0) fun (r2 : Int32) (s1 : PH) =>
(lt r2 fun (v3 : Int32) =>
(if 0 ≤ v3 then
(lt (s1.2.2 0 8) fun (g4 : Nat) =>
(bd (fX2_stepAt n g4 a1 a2 s1) fun (r6 : Int32) (s5 : PH) =>
(some (r6, s5))))
else
(some (v3, s1)))))
else
(some ((-1 : Int32), s0))))))
set_option maxRecDepth 20000 in
set_option maxHeartbeats 2000000 in
theorem mX11_step (l : Launch) (n : Nat) (a1 : Int32) (a2 : Int32) (s0 : PH) : Cti 148 l yX11_step cX11_step 4 (some .int) (rmOf 6 160) (fun E => [.ref (E.2.1 0), .int a1, .int a2]) s0 (fX11_step n a1 a2 s0) := by
  refine Cti.of (by decide) rfl (lv := fun E => [(0, .ref (E.2.1 0)), (1, .int a1), (2, .int a2)]) (fun _ => Nat.le_of_ble_eq_true rfl) (fun _ => rfl) (fun Γ hΓ _ C => ?_)
  subst hΓ
  unfold fX11_step
  refine rf_iload_n C dX11_step_0 rfl 1 rfl ?_
  refine rf_if_lt C 20 dX11_step_1 (by decide) (fun _ => ?_) (fun _ => ?_)
  · refine rf_iconst C (v := (-1 : Int32)) dX11_step_20 rfl ?_
    exact rf_iret C dX11_step_21
  refine rf_iload_n C dX11_step_4 rfl 1 rfl ?_
  refine rf_iconst C (v := (nI 1)) dX11_step_5 rfl ?_
  refine rf_icmp_gt C 20 dX11_step_6 (by decide) (fun _ => ?_) (fun _ => ?_)
  · refine rf_iconst C (v := (-1 : Int32)) dX11_step_20 rfl ?_
    exact rf_iret C dX11_step_21
  refine rf_iload_n C dX11_step_9 rfl 2 rfl ?_
  refine rf_if_lt C 20 dX11_step_10 (by decide) (fun _ => ?_) (fun _ => ?_)
  · refine rf_iconst C (v := (-1 : Int32)) dX11_step_20 rfl ?_
    exact rf_iret C dX11_step_21
  refine rf_iload_n C dX11_step_13 rfl 2 rfl ?_
  refine rf_sipush C (v := (nI 200)) dX11_step_14 rfl ?_
  refine rf_icmp_lt C 22 dX11_step_17 (by decide) (fun _ => ?_) (fun _ => ?_)
  · refine rf_aload_n C dX11_step_22 rfl 0 rfl ?_
    refine rf_callVi C (rmc := rmOf 5 139) [] (by decide) (mX11_derivations (gL Γ) n s0) mfX11_derivations mvX11_derivations mlX11_227 rfl oX11 rfl rfl rfl (Nat.le_of_ble_eq_true rfl) ⟨Nat.le_of_ble_eq_true rfl, Nat.le_of_ble_eq_true rfl⟩ dX11_step_23 (fun r2 s1 => ?_)
    refine rf_istore_n C (fun v3 => [(3, .int v3), (0, .ref ((gE Γ).2.1 0)), (1, .int a1), (2, .int a2)]) dX11_step_26 rfl (by decide) (fun _ => rfl) (fun v3 => ?_)
    refine rf_iload_n C dX11_step_27 rfl 0 rfl ?_
    refine rf_if_ge C 33 dX11_step_28 (by decide) (fun _ => ?_) (fun _ => ?_)
    · refine rf_aload_n C dX11_step_33 rfl 1 rfl ?_
      refine rf_get C (v := .ref ((gE Γ).2.1 24)) cfX11 flX11_54 (by decide) oX11 rfl dX11_step_34 ?_
      refine rf_aload_n C dX11_step_37 rfl 1 rfl ?_
      refine rf_getG C cfX11 flX11_68 (by decide) oX11 (fun _ _ _ _ => rfl) dX11_step_38 (fun g4 hg4 => ?_)
      refine rf_iload_n C dX11_step_41 rfl 2 rfl ?_
      refine rf_iload_n C dX11_step_42 rfl 3 rfl ?_
      refine rf_callVi C (rmc := rmOf 5 125) [.ref ((gE Γ).2.1 (gId g4 0)), .int a1, .int a2] (by decide) (mX2_stepAt (gL Γ) n g4 a1 a2 s1 hg4) mfX2_stepAt mvX2_stepAt mlX11_230 rfl oX2 rfl rfl rfl (Nat.le_of_ble_eq_true rfl) ⟨Nat.le_of_ble_eq_true rfl, Nat.le_of_ble_eq_true rfl⟩ dX11_step_43 (fun r6 s5 => ?_)
      exact rf_iret C dX11_step_46
    refine rf_iload_n C dX11_step_31 rfl 0 rfl ?_
    exact rf_iret C dX11_step_32
  refine rf_iconst C (v := (-1 : Int32)) dX11_step_20 rfl ?_
  exact rf_iret C dX11_step_21

def fX0_spell (n : Nat) (a1 : Int32) (s0 : PH) : Option (Int32 × PH) :=
(lt (nI 0) fun (v1 : Int32) =>
(lt a1 fun (v2 : Int32) =>
(loo3 (fun (recrec6 : Int32 → Int32 → PH → Option (Int32 × PH)) (v3 : Int32) (v4 : Int32) (s5 : PH) =>
(jn (fun (s7 : PH) =>
(lt a1 fun (v9 : Int32) =>
(lt (v3 - (nI 1)) fun (v10 : Int32) =>
(loo3 (fun (recrec14 : Int32 → Int32 → PH → Option (Int32 × PH)) (v11 : Int32) (v12 : Int32) (s13 : PH) =>
(if v12 < 0 then
(some (v3, s13))
else
(bd (fX1_setLetter 1 v12 ((v11 - (nI 1)) - (v11 - (nI 1)) / (nI 5) * (nI 5)) s13) fun _ (s15 : PH) =>
(lt ((v11 - (nI 1)) / (nI 5)) fun (v16 : Int32) =>
(lt (v12 + (-1 : Int32)) fun (v17 : Int32) =>
(recrec14 v16 v17 s15)))))) n v9 v10 s7)))) (fun (j8 : PH → Option (Int32 × PH)) =>
(if v4 ≤ 0 then
(j8 s5)
else
(if (nI 4) ≤ v3 then
(j8 s5)
else
(lt (v3 + (nI 1)) fun (v18 : Int32) =>
(lt ((v4 - (nI 1)) / (nI 5)) fun (v19 : Int32) =>
(recrec6 v18 v19 s5)))))))) n v1 v2 s0)))
set_option maxRecDepth 20000 in
set_option maxHeartbeats 2000000 in
theorem mX0_spell (l : Launch) (n : Nat) (a1 : Int32) (s0 : PH) : Cti 148 l yX0_spell cX0_spell 5 (some .int) (rmOf 1 22) (fun E => [.ref (E.2.1 29), .int a1]) s0 (fX0_spell n a1 s0) := by
  refine Cti.of (by decide) rfl (lv := fun E => [(0, .ref (E.2.1 29)), (1, .int a1)]) (fun _ => Nat.le_of_ble_eq_true rfl) (fun _ => rfl) (fun Γ hΓ _ C => ?_)
  subst hΓ
  unfold fX0_spell
  refine rf_iconst C (v := (nI 0)) dX0_spell_0 rfl ?_
  refine rf_istore_n C (fun v1 => [(2, .int v1), (0, .ref ((gE Γ).2.1 29)), (1, .int a1)]) dX0_spell_1 rfl (by decide) (fun _ => rfl) (fun v1 => ?_)
  refine rf_iload_n C dX0_spell_2 rfl 2 rfl ?_
  refine rf_istore_n C (fun v2 => [(3, .int v2), (2, .int v1), (0, .ref ((gE Γ).2.1 29)), (1, .int a1)]) dX0_spell_3 rfl (by decide) (fun _ => rfl) (fun v2 => ?_)
  refine rf_sub [2, 3, 1, 0] rfl ?_
  refine rf_loo3 (fun _ _ _ => True) (fun _ _ s5 => s5) (fun v3 v4 s5 => [(0, .ref ((gE Γ).2.1 29)), (1, .int a1), (2, .int v3), (3, .int v4)]) (fun recrec6 hrec6 v3 v4 s5 _ => ?_) n v1 v2 s0 trivial
  refine rf_iload_n C dX0_spell_4 rfl 3 rfl ?_
  refine rf_jn1 (fun _ => True) (fun  s7 => s7) (fun s7 => [(0, .ref ((gE Γ).2.1 29)), (1, .int a1), (2, .int v3)]) (fun s7 => []) 25 (fun s7 _ => ?_) (fun j8 hj8 => ?_)
  · refine rf_iload_n C dX0_spell_25 rfl 1 rfl ?_
    refine rf_istore_n C (fun v9 => [(3, .int v9), (0, .ref ((gE Γ).2.1 29)), (1, .int a1), (2, .int v3)]) dX0_spell_26 rfl (by decide) (fun _ => rfl) (fun v9 => ?_)
    refine rf_iload_n C dX0_spell_27 rfl 3 rfl ?_
    refine rf_iconst C (v := (nI 1)) dX0_spell_28 rfl ?_
    refine rf_isub C dX0_spell_29 ?_
    refine rf_istore C (fun v10 => [(4, .int v10), (3, .int v9), (0, .ref ((gE Γ).2.1 29)), (1, .int a1), (2, .int v3)]) dX0_spell_30 (by decide) (fun _ => rfl) (fun v10 => ?_)
    refine rf_sub [2, 4, 1, 0] rfl ?_
    refine rf_loo3 (fun _ _ _ => True) (fun _ _ s13 => s13) (fun v11 v12 s13 => [(0, .ref ((gE Γ).2.1 29)), (2, .int v3), (3, .int v11), (4, .int v12)]) (fun recrec14 hrec14 v11 v12 s13 _ => ?_) n v9 v10 s7 trivial
    refine rf_iload C dX0_spell_32 3 rfl ?_
    refine rf_if_lt C 63 dX0_spell_34 (by decide) (fun _ => ?_) (fun _ => ?_)
    · refine rf_iload_n C dX0_spell_63 rfl 1 rfl ?_
      exact rf_iret C dX0_spell_64
    refine rf_aload_n C dX0_spell_37 rfl 0 rfl ?_
    refine rf_get C (v := .ref ((gE Γ).2.1 (cId 1 0))) cfX0 flX0_16 (by decide) oX0 rfl dX0_spell_38 ?_
    refine rf_iload C dX0_spell_41 3 rfl ?_
    refine rf_iload_n C dX0_spell_43 rfl 2 rfl ?_
    refine rf_iconst C (v := (nI 1)) dX0_spell_44 rfl ?_
    refine rf_isub C dX0_spell_45 ?_
    refine rf_iconst C (v := (nI 5)) dX0_spell_46 rfl ?_
    refine rf_irem C dX0_spell_47 (by decide) ?_
    refine rf_callVv C (rmc := rmOf 0 0) [.int v12, .int ((v11 - (nI 1)) - (v11 - (nI 1)) / (nI 5) * (nI 5))] (by decide) (mX1_setLetter (gL Γ) 1 v12 ((v11 - (nI 1)) - (v11 - (nI 1)) / (nI 5) * (nI 5)) s13 (by decide)) mfX1_setLetter mvX1_setLetter mlX0_65 rfl (oX1 (by decide)) rfl rfl rfl (Nat.le_of_ble_eq_true rfl) ⟨Nat.le_of_ble_eq_true rfl, Nat.le_of_ble_eq_true rfl⟩ dX0_spell_48 (fun s15 => ?_)
    refine rf_iload_n C dX0_spell_51 rfl 2 rfl ?_
    refine rf_iconst C (v := (nI 1)) dX0_spell_52 rfl ?_
    refine rf_isub C dX0_spell_53 ?_
    refine rf_iconst C (v := (nI 5)) dX0_spell_54 rfl ?_
    refine rf_idiv C dX0_spell_55 (by decide) ?_
    refine rf_istore_n C (fun v16 => [(3, .int v16), (0, .ref ((gE Γ).2.1 29)), (2, .int v3), (4, .int v12)]) dX0_spell_56 rfl (by decide) (fun _ => rfl) (fun v16 => ?_)
    refine rf_iinc C (fun v17 => [(4, .int v17), (3, .int v16), (0, .ref ((gE Γ).2.1 29)), (2, .int v3)]) dX0_spell_57 3 rfl rfl (by decide) (fun _ => rfl) (fun v17 => ?_)
    refine rf_goto C 32 dX0_spell_60 (by decide) ?_
    exact rf_sub [2, 3, 1, 0] rfl (hrec14 v16 v17 s15 trivial)
  refine rf_if_le C 25 dX0_spell_5 (by decide) (fun _ => ?_) (fun _ => ?_)
  · exact rf_sub [0, 1, 2] rfl (hj8 s5 trivial)
  refine rf_iload_n C dX0_spell_8 rfl 2 rfl ?_
  refine rf_iconst C (v := (nI 4)) dX0_spell_9 rfl ?_
  refine rf_icmp_ge C 25 dX0_spell_10 (by decide) (fun _ => ?_) (fun _ => ?_)
  · exact rf_sub [0, 1, 2] rfl (hj8 s5 trivial)
  refine rf_iinc C (fun v18 => [(2, .int v18), (0, .ref ((gE Γ).2.1 29)), (1, .int a1), (3, .int v4)]) dX0_spell_13 2 rfl rfl (by decide) (fun _ => rfl) (fun v18 => ?_)
  refine rf_iload_n C dX0_spell_16 rfl 3 rfl ?_
  refine rf_iconst C (v := (nI 1)) dX0_spell_17 rfl ?_
  refine rf_isub C dX0_spell_18 ?_
  refine rf_iconst C (v := (nI 5)) dX0_spell_19 rfl ?_
  refine rf_idiv C dX0_spell_20 (by decide) ?_
  refine rf_istore_n C (fun v19 => [(3, .int v19), (2, .int v18), (0, .ref ((gE Γ).2.1 29)), (1, .int a1)]) dX0_spell_21 rfl (by decide) (fun _ => rfl) (fun v19 => ?_)
  refine rf_goto C 4 dX0_spell_22 (by decide) ?_
  exact rf_sub [2, 3, 1, 0] rfl (hrec6 v18 v19 s5 trivial)

def fX9_letters (s0 : PH) : Option (Int32 × PH) :=
(some ((s0.1 7 6), s0))
set_option maxRecDepth 20000 in
set_option maxHeartbeats 2000000 in
theorem mX9_letters (l : Launch) (s0 : PH) : Cti 148 l yX9_letters cX9_letters 1 (some .int) (rmOf 0 0) (fun E => [.ref (E.2.1 7)]) s0 (fX9_letters s0) := by
  refine Cti.of (by decide) rfl (lv := fun E => [(0, .ref (E.2.1 7))]) (fun _ => Nat.le_of_ble_eq_true rfl) (fun _ => rfl) (fun Γ hΓ _ C => ?_)
  subst hΓ
  unfold fX9_letters
  refine rf_aload_n C dX9_letters_0 rfl 0 rfl ?_
  refine rf_get C (v := .int (s0.1 7 6)) cfX9 flX9_31 (by decide) oX9 rfl dX9_letters_1 ?_
  exact rf_iret C dX9_letters_4

def fX0_isOver (n : Nat) (a1 : Int32) (a2 : Int32) (s0 : PH) : Option (Int32 × PH) :=
(lt (nI 0) fun (v1 : Int32) =>
(loo2 (fun (recrec4 : Int32 → PH → Option (Int32 × PH)) (v2 : Int32) (s3 : PH) =>
(if a2 ≤ v2 then
(some ((nI 1), s3))
else
(bd (fX1_letter 1 v2 s3) fun (r6 : Int32) (s5 : PH) =>
(bd (fX11_bit a1 r6 s5) fun (r8 : Int32) (s7 : PH) =>
(if r8 = 0 then
(some ((nI 0), s7))
else
(lt (v2 + (nI 1)) fun (v9 : Int32) =>
(recrec4 v9 s7))))))) n v1 s0))
set_option maxRecDepth 20000 in
set_option maxHeartbeats 2000000 in
theorem mX0_isOver (l : Launch) (n : Nat) (a1 : Int32) (a2 : Int32) (s0 : PH) : Cti 148 l yX0_isOver cX0_isOver 4 (some .boolean) (rmOf 1 21) (fun E => [.ref (E.2.1 29), .int a1, .int a2]) s0 (fX0_isOver n a1 a2 s0) := by
  refine Cti.of (by decide) rfl (lv := fun E => [(0, .ref (E.2.1 29)), (1, .int a1), (2, .int a2)]) (fun _ => Nat.le_of_ble_eq_true rfl) (fun _ => rfl) (fun Γ hΓ _ C => ?_)
  subst hΓ
  unfold fX0_isOver
  refine rf_iconst C (v := (nI 0)) dX0_isOver_0 rfl ?_
  refine rf_istore_n C (fun v1 => [(3, .int v1), (0, .ref ((gE Γ).2.1 29)), (1, .int a1), (2, .int a2)]) dX0_isOver_1 rfl (by decide) (fun _ => rfl) (fun v1 => ?_)
  refine rf_sub [1, 2, 3, 0] rfl ?_
  refine rf_loo2 (fun _ _ => True) (fun _ s3 => s3) (fun v2 s3 => [(0, .ref ((gE Γ).2.1 29)), (1, .int a1), (2, .int a2), (3, .int v2)]) (fun recrec4 hrec4 v2 s3 _ => ?_) n v1 s0 trivial
  refine rf_iload_n C dX0_isOver_2 rfl 3 rfl ?_
  refine rf_iload_n C dX0_isOver_3 rfl 2 rfl ?_
  refine rf_icmp_ge C 30 dX0_isOver_4 (by decide) (fun _ => ?_) (fun _ => ?_)
  · refine rf_iconst C (v := (nI 1)) dX0_isOver_30 rfl ?_
    exact rf_zret C rfl dX0_isOver_31
  refine rf_iload_n C dX0_isOver_7 rfl 1 rfl ?_
  refine rf_aload_n C dX0_isOver_8 rfl 0 rfl ?_
  refine rf_get C (v := .ref ((gE Γ).2.1 (cId 1 0))) cfX0 flX0_16 (by decide) oX0 rfl dX0_isOver_9 ?_
  refine rf_iload_n C dX0_isOver_12 rfl 3 rfl ?_
  refine rf_callVi C (rmc := rmOf 0 0) [.int v2] (by decide) (mX1_letter (gL Γ) 1 v2 s3 (by decide)) mfX1_letter mvX1_letter mlX0_69 rfl (oX1 (by decide)) rfl rfl rfl (Nat.le_of_ble_eq_true rfl) ⟨Nat.le_of_ble_eq_true rfl, Nat.le_of_ble_eq_true rfl⟩ dX0_isOver_13 (fun r6 s5 => ?_)
  refine rf_callSNi C (rmc := rmOf 0 0) [.int a1, .int r6] (by decide) (mX11_bit (gL Γ) a1 r6 s5) mfX11_bit msX11_bit (by decide) rfl rfl rfl (Nat.le_of_ble_eq_true rfl) ⟨Nat.le_of_ble_eq_true rfl, Nat.le_of_ble_eq_true rfl⟩ dX0_isOver_16 (fun r8 s7 => ?_)
  refine rf_if_ne C 24 dX0_isOver_19 (by decide) (fun _ => ?_) (fun _ => ?_)
  · refine rf_iinc C (fun v9 => [(3, .int v9), (0, .ref ((gE Γ).2.1 29)), (1, .int a1), (2, .int a2)]) dX0_isOver_24 3 rfl rfl (by decide) (fun _ => rfl) (fun v9 => ?_)
    refine rf_goto C 2 dX0_isOver_27 (by decide) ?_
    exact rf_sub [1, 2, 3, 0] rfl (hrec4 v9 s7 trivial)
  refine rf_iconst C (v := (nI 0)) dX0_isOver_22 rfl ?_
  exact rf_zret C rfl dX0_isOver_23

