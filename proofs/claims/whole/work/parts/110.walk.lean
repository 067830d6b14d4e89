def fX12_sideWays (n : Nat) (a1 : Int32) (a2 : Int32) (a3 : Int32) (s0 : PH) : Option (Int64 × PH) :=
(lt a2 fun (v1 : Int32) =>
(loo2 (fun (recrec4 : Int32 → PH → Option (Int64 × PH)) (v2 : Int32) (s3 : PH) =>
(if a3 < v2 then
(lt (nI 0) fun (v5 : Int32) =>
(loo2 (fun (recrec8 : Int32 → PH → Option (Int64 × PH)) (v6 : Int32) (s7 : PH) =>
(bd (fX12_size a1 s7) fun (r10 : Int32) (s9 : PH) =>
(if r10 ≤ v6 then
(ra 9 a3 (s9.2.1 169) fun (u11 : Int64) =>
(some (u11, s9)))
else
(lt a2 fun (v12 : Int32) =>
(loo2 (fun (recrec15 : Int32 → PH → Option (Int64 × PH)) (v13 : Int32) (s14 : PH) =>
(if a3 < v13 then
(lt a2 fun (v16 : Int32) =>
(loo2 (fun (recrec19 : Int32 → PH → Option (Int64 × PH)) (v17 : Int32) (s18 : PH) =>
(if a3 < v17 then
(lt a2 fun (v20 : Int32) =>
(loo2 (fun (recrec23 : Int32 → PH → Option (Int64 × PH)) (v21 : Int32) (s22 : PH) =>
(if a3 < v21 then
(lt (v6 + (nI 1)) fun (v24 : Int32) =>
(recrec8 v24 s22))
else
(ra 9 v21 (s22.2.1 170) fun (u25 : Int64) =>
(wa 9 v21 (lt (sl s22 169 v21.toNatClampNeg u25) fun (s26 : PH) =>
(lt (v21 + (nI 1)) fun (v27 : Int32) =>
(recrec23 v27 s26))))))) n v20 s18))
else
(ra 9 v17 (s18.2.1 169) fun (u28 : Int64) =>
(jn (fun (s29 : PH) =>
(lt (v17 + (nI 1)) fun (v31 : Int32) =>
(recrec19 v31 s29))) (fun (j30 : PH → Option (Int64 × PH)) =>
(jn (fun (s32 : PH) =>
(ra 9 v17 (s32.2.1 169) fun (u34 : Int64) =>
(if u34 ≤ (0 : Int64) then
(j30 s32)
else
(lt v17 fun (v35 : Int32) =>
(loo2 (fun (recrec38 : Int32 → PH → Option (Int64 × PH)) (v36 : Int32) (s37 : PH) =>
(if a3 < v36 then
(j30 s37)
else
(ra 9 v36 (s37.2.1 170) fun (u39 : Int64) =>
(ra 9 v17 (s37.2.1 169) fun (u40 : Int64) =>
(bd (fX12_at a1 v6 s37) fun (r42 : Int32) (s41 : PH) =>
(bd (fX12_waysOf (r42 - (nI 10)) v17 v36 s41) fun (r44 : Int64) (s43 : PH) =>
(bd (fX12_held (u39 + (u40 * r44)) s43) fun (r46 : Int64) (s45 : PH) =>
(wa 9 v36 (lt (sl s45 170 v36.toNatClampNeg r46) fun (s47 : PH) =>
(lt (v36 + (nI 1)) fun (v48 : Int32) =>
(recrec38 v48 s47))))))))))) n v35 s32))))) (fun (j33 : PH → Option (Int64 × PH)) =>
(if u28 ≤ (0 : Int64) then
(j33 s18)
else
(bd (fX12_at a1 v6 s18) fun (r50 : Int32) (s49 : PH) =>
(if (nI 10) ≤ r50 then
(j33 s49)
else
(if a3 ≤ v17 then
(j30 s49)
else
(ra 8 v17 (s49.1 166) fun (v51 : Int32) =>
(bd (fX12_at a1 v6 s49) fun (r53 : Int32) (s52 : PH) =>
(if v51 = r53 then
(ra 9 (v17 + (nI 1)) (s52.2.1 170) fun (u54 : Int64) =>
(ra 9 v17 (s52.2.1 169) fun (u55 : Int64) =>
(bd (fX12_held (u54 + u55) s52) fun (r57 : Int64) (s56 : PH) =>
(wa 9 (v17 + (nI 1)) (lt (sl s56 170 (v17 + (nI 1)).toNatClampNeg r57) fun (s58 : PH) =>
(j30 s58))))))
else
(j30 s52))))))))))))))) n v16 s14))
else
(wa 9 v13 (lt (sl s14 170 v13.toNatClampNeg (0 : Int64)) fun (s59 : PH) =>
(lt (v13 + (nI 1)) fun (v60 : Int32) =>
(recrec15 v60 s59)))))) n v12 s9))))) n v5 s3))
else
(jn (fun (u61 : Int64) (s62 : PH) =>
(wa 9 v2 (lt (sl s62 169 v2.toNatClampNeg u61) fun (s64 : PH) =>
(lt (v2 + (nI 1)) fun (v65 : Int32) =>
(recrec4 v65 s64))))) (fun (j63 : Int64 → PH → Option (Int64 × PH)) =>
(if v2 = a2 then
(j63 (1 : Int64) s3)
else
(j63 (0 : Int64) s3)))))) n v1 s0))
set_option maxRecDepth 20000 in
set_option maxHeartbeats 2000000 in
theorem mX12_sideWays (l : Launch) (n : Nat) (a1 : Int32) (a2 : Int32) (a3 : Int32) (s0 : PH) : Ctl 174 l yX12_sideWays cX12_sideWays 7 (some .long) (rmOf 1 23) (fun E => [.ref (E.2.1 148), .int a1, .int a2, .int a3]) s0 (fX12_sideWays n a1 a2 a3 s0) := by
  refine Ctl.of (by decide) rfl (lv := fun E => [(0, .ref (E.2.1 148)), (1, .int a1), (2, .int a2), (3, .int a3)]) (fun _ => Nat.le_of_ble_eq_true rfl) (fun _ => rfl) (fun Γ hΓ _ C => ?_)
  subst hΓ
  unfold fX12_sideWays
  refine rf_iload_n C dX12_sideWays_0 rfl 2 rfl ?_
  refine rf_istore C (fun v1 => [(4, .int v1), (0, .ref ((gE Γ).2.1 148)), (1, .int a1), (2, .int a2), (3, .int a3)]) dX12_sideWays_1 (by decide) (fun _ => rfl) (fun v1 => ?_)
  refine rf_sub [1, 2, 3, 4, 0] rfl ?_
  refine rf_loo2 (fun _ _ => True) (fun _ s3 => s3) (fun v2 s3 => [(0, .ref ((gE Γ).2.1 148)), (1, .int a1), (2, .int a2), (3, .int a3), (4, .int v2)]) (fun recrec4 hrec4 v2 s3 _ => ?_) n v1 s0 trivial
  refine rf_iload C dX12_sideWays_3 4 rfl ?_
  refine rf_iload_n C dX12_sideWays_5 rfl 3 rfl ?_
  refine rf_icmp_gt C 33 dX12_sideWays_6 (by decide) (fun _ => ?_) (fun _ => ?_)
  · refine rf_iconst C (v := (nI 0)) dX12_sideWays_33 rfl ?_
    refine rf_istore C (fun v5 => [(4, .int v5), (0, .ref ((gE Γ).2.1 148)), (1, .int a1), (2, .int a2), (3, .int a3)]) dX12_sideWays_34 (by decide) (fun _ => rfl) (fun v5 => ?_)
    refine rf_sub [1, 2, 3, 4, 0] rfl ?_
    refine rf_loo2 (fun _ _ => True) (fun _ s7 => s7) (fun v6 s7 => [(0, .ref ((gE Γ).2.1 148)), (1, .int a1), (2, .int a2), (3, .int a3), (4, .int v6)]) (fun recrec8 hrec8 v6 s7 _ => ?_) n v5 s3 trivial
    refine rf_iload C dX12_sideWays_36 4 rfl ?_
    refine rf_aload_n C dX12_sideWays_38 rfl 0 rfl ?_
    refine rf_iload_n C dX12_sideWays_39 rfl 1 rfl ?_
    refine rf_callVi C (rmc := rmOf 0 0) [.int a1] (by decide) (mX12_size (gL Γ) a1 s7) mfX12_size mvX12_size mlX12_117 rfl oX12 rfl rfl rfl (Nat.le_of_ble_eq_true rfl) ⟨Nat.le_of_ble_eq_true rfl, Nat.le_of_ble_eq_true rfl⟩ dX12_sideWays_40 (fun r10 s9 => ?_)
    refine rf_icmp_ge C 270 dX12_sideWays_43 (by decide) (fun _ => ?_) (fun _ => ?_)
    · refine rf_aload_n C dX12_sideWays_270 rfl 0 rfl ?_
      refine rf_get C (v := .ref ((gE Γ).2.1 169)) cfX12 flX12_76 (by decide) oX12 rfl dX12_sideWays_271 ?_
      refine rf_iload_n C dX12_sideWays_274 rfl 3 rfl ?_
      refine rf_lald C ar169 dX12_sideWays_275 (fun u11 => ?_)
      exact rf_lret C dX12_sideWays_276
    refine rf_iload_n C dX12_sideWays_46 rfl 2 rfl ?_
    refine rf_istore C (fun v12 => [(5, .int v12), (0, .ref ((gE Γ).2.1 148)), (1, .int a1), (2, .int a2), (3, .int a3), (4, .int v6)]) dX12_sideWays_47 (by decide) (fun _ => rfl) (fun v12 => ?_)
    refine rf_sub [1, 2, 3, 4, 5, 0] rfl ?_
    refine rf_loo2 (fun _ _ => True) (fun _ s14 => s14) (fun v13 s14 => [(0, .ref ((gE Γ).2.1 148)), (1, .int a1), (2, .int a2), (3, .int a3), (4, .int v6), (5, .int v13)]) (fun recrec15 hrec15 v13 s14 _ => ?_) n v12 s9 trivial
    refine rf_iload C dX12_sideWays_49 5 rfl ?_
    refine rf_iload_n C dX12_sideWays_51 rfl 3 rfl ?_
    refine rf_icmp_gt C 69 dX12_sideWays_52 (by decide) (fun _ => ?_) (fun _ => ?_)
    · refine rf_iload_n C dX12_sideWays_69 rfl 2 rfl ?_
      refine rf_istore C (fun v16 => [(5, .int v16), (0, .ref ((gE Γ).2.1 148)), (1, .int a1), (2, .int a2), (3, .int a3), (4, .int v6)]) dX12_sideWays_70 (by decide) (fun _ => rfl) (fun v16 => ?_)
      refine rf_sub [1, 2, 3, 4, 5, 0] rfl ?_
      refine rf_loo2 (fun _ _ => True) (fun _ s18 => s18) (fun v17 s18 => [(0, .ref ((gE Γ).2.1 148)), (1, .int a1), (2, .int a2), (3, .int a3), (4, .int v6), (5, .int v17)]) (fun recrec19 hrec19 v17 s18 _ => ?_) n v16 s14 trivial
      refine rf_iload C dX12_sideWays_72 5 rfl ?_
      refine rf_iload_n C dX12_sideWays_74 rfl 3 rfl ?_
      refine rf_icmp_gt C 235 dX12_sideWays_75 (by decide) (fun _ => ?_) (fun _ => ?_)
      · refine rf_iload_n C dX12_sideWays_235 rfl 2 rfl ?_
        refine rf_istore C (fun v20 => [(5, .int v20), (0, .ref ((gE Γ).2.1 148)), (1, .int a1), (2, .int a2), (3, .int a3), (4, .int v6)]) dX12_sideWays_236 (by decide) (fun _ => rfl) (fun v20 => ?_)
        refine rf_sub [1, 2, 3, 4, 5, 0] rfl ?_
        refine rf_loo2 (fun _ _ => True) (fun _ s22 => s22) (fun v21 s22 => [(0, .ref ((gE Γ).2.1 148)), (1, .int a1), (2, .int a2), (3, .int a3), (4, .int v6), (5, .int v21)]) (fun recrec23 hrec23 v21 s22 _ => ?_) n v20 s18 trivial
        refine rf_iload C dX12_sideWays_238 5 rfl ?_
        refine rf_iload_n C dX12_sideWays_240 rfl 3 rfl ?_
        refine rf_icmp_gt C 264 dX12_sideWays_241 (by decide) (fun _ => ?_) (fun _ => ?_)
        · refine rf_iinc C (fun v24 => [(4, .int v24), (0, .ref ((gE Γ).2.1 148)), (1, .int a1), (2, .int a2), (3, .int a3), (5, .int v21)]) dX12_sideWays_264 4 rfl rfl (by decide) (fun _ => rfl) (fun v24 => ?_)
          refine rf_goto C 36 dX12_sideWays_267 (by decide) ?_
          exact rf_sub [1, 2, 3, 4, 0] rfl (hrec8 v24 s22 trivial)
        refine rf_aload_n C dX12_sideWays_244 rfl 0 rfl ?_
        refine rf_get C (v := .ref ((gE Γ).2.1 169)) cfX12 flX12_76 (by decide) oX12 rfl dX12_sideWays_245 ?_
        refine rf_iload C dX12_sideWays_248 5 rfl ?_
        refine rf_aload_n C dX12_sideWays_250 rfl 0 rfl ?_
        refine rf_get C (v := .ref ((gE Γ).2.1 170)) cfX12 flX12_79 (by decide) oX12 rfl dX12_sideWays_251 ?_
        refine rf_iload C dX12_sideWays_254 5 rfl ?_
        refine rf_lald C ar170 dX12_sideWays_256 (fun u25 => ?_)
        refine rf_last C ar169 dX12_sideWays_257 (fun s26 => ?_)
        refine rf_iinc C (fun v27 => [(5, .int v27), (0, .ref ((gE Γ).2.1 148)), (1, .int a1), (2, .int a2), (3, .int a3), (4, .int v6)]) dX12_sideWays_258 5 rfl rfl (by decide) (fun _ => rfl) (fun v27 => ?_)
        refine rf_goto C 238 dX12_sideWays_261 (by decide) ?_
        exact rf_sub [1, 2, 3, 4, 5, 0] rfl (hrec23 v27 s26 trivial)
      refine rf_aload_n C dX12_sideWays_78 rfl 0 rfl ?_
      refine rf_get C (v := .ref ((gE Γ).2.1 169)) cfX12 flX12_76 (by decide) oX12 rfl dX12_sideWays_79 ?_
      refine rf_iload C dX12_sideWays_82 5 rfl ?_
      refine rf_lald C ar169 dX12_sideWays_84 (fun u28 => ?_)
      refine rf_lconst C (v := (0 : Int64)) dX12_sideWays_85 rfl ?_
      refine rf_jn1 (fun _ => True) (fun  s29 => s29) (fun s29 => [(0, .ref ((gE Γ).2.1 148)), (1, .int a1), (2, .int a2), (3, .int a3), (4, .int v6), (5, .int v17)]) (fun s29 => []) 229 (fun s29 _ => ?_) (fun j30 hj30 => ?_)
      · refine rf_iinc C (fun v31 => [(5, .int v31), (0, .ref ((gE Γ).2.1 148)), (1, .int a1), (2, .int a2), (3, .int a3), (4, .int v6)]) dX12_sideWays_229 5 rfl rfl (by decide) (fun _ => rfl) (fun v31 => ?_)
        refine rf_goto C 72 dX12_sideWays_232 (by decide) ?_
        exact rf_sub [1, 2, 3, 4, 5, 0] rfl (hrec19 v31 s29 trivial)
      refine rf_jn1 (fun _ => True) (fun  s32 => s32) (fun s32 => [(0, .ref ((gE Γ).2.1 148)), (1, .int a1), (2, .int a2), (3, .int a3), (4, .int v6), (5, .int v17)]) (fun s32 => []) 157 (fun s32 _ => ?_) (fun j33 hj33 => ?_)
      · refine rf_aload_n C dX12_sideWays_157 rfl 0 rfl ?_
        refine rf_get C (v := .ref ((gE Γ).2.1 169)) cfX12 flX12_76 (by decide) oX12 rfl dX12_sideWays_158 ?_
        refine rf_iload C dX12_sideWays_161 5 rfl ?_
        refine rf_lald C ar169 dX12_sideWays_163 (fun u34 => ?_)
        refine rf_lconst C (v := (0 : Int64)) dX12_sideWays_164 rfl ?_
        refine rf_lcmp_le C 229 dX12_sideWays_165 dX12_sideWays_166 (by decide) (fun _ => ?_) (fun _ => ?_)
        · exact rf_sub [0, 1, 2, 3, 4, 5] rfl (hj30 s32 trivial)
        refine rf_iload C dX12_sideWays_169 5 rfl ?_
        refine rf_istore C (fun v35 => [(6, .int v35), (0, .ref ((gE Γ).2.1 148)), (1, .int a1), (2, .int a2), (3, .int a3), (4, .int v6), (5, .int v17)]) dX12_sideWays_171 (by decide) (fun _ => rfl) (fun v35 => ?_)
        refine rf_sub [1, 2, 3, 4, 5, 6, 0] rfl ?_
        refine rf_loo2 (fun _ _ => True) (fun _ s37 => s37) (fun v36 s37 => [(0, .ref ((gE Γ).2.1 148)), (1, .int a1), (2, .int a2), (3, .int a3), (4, .int v6), (5, .int v17), (6, .int v36)]) (fun recrec38 hrec38 v36 s37 _ => ?_) n v35 s32 trivial
        refine rf_iload C dX12_sideWays_173 6 rfl ?_
        refine rf_iload_n C dX12_sideWays_175 rfl 3 rfl ?_
        refine rf_icmp_gt C 229 dX12_sideWays_176 (by decide) (fun _ => ?_) (fun _ => ?_)
        · exact rf_sub [0, 1, 2, 3, 4, 5] rfl (hj30 s37 trivial)
        refine rf_aload_n C dX12_sideWays_179 rfl 0 rfl ?_
        refine rf_get C (v := .ref ((gE Γ).2.1 170)) cfX12 flX12_79 (by decide) oX12 rfl dX12_sideWays_180 ?_
        refine rf_iload C dX12_sideWays_183 6 rfl ?_
        refine rf_aload_n C dX12_sideWays_185 rfl 0 rfl ?_
        refine rf_get C (v := .ref ((gE Γ).2.1 170)) cfX12 flX12_79 (by decide) oX12 rfl dX12_sideWays_186 ?_
        refine rf_iload C dX12_sideWays_189 6 rfl ?_
        refine rf_lald C ar170 dX12_sideWays_191 (fun u39 => ?_)
        refine rf_aload_n C dX12_sideWays_192 rfl 0 rfl ?_
        refine rf_get C (v := .ref ((gE Γ).2.1 169)) cfX12 flX12_76 (by decide) oX12 rfl dX12_sideWays_193 ?_
        refine rf_iload C dX12_sideWays_196 5 rfl ?_
        refine rf_lald C ar169 dX12_sideWays_198 (fun u40 => ?_)
        refine rf_aload_n C dX12_sideWays_199 rfl 0 rfl ?_
        refine rf_aload_n C dX12_sideWays_200 rfl 0 rfl ?_
        refine rf_iload_n C dX12_sideWays_201 rfl 1 rfl ?_
        refine rf_iload C dX12_sideWays_202 4 rfl ?_
        refine rf_callVi C (rmc := rmOf 0 0) [.int a1, .int v6] (by decide) (mX12_at (gL Γ) a1 v6 s37) mfX12_at mvX12_at mlX12_109 rfl oX12 rfl rfl rfl (Nat.le_of_ble_eq_true rfl) ⟨Nat.le_of_ble_eq_true rfl, Nat.le_of_ble_eq_true rfl⟩ dX12_sideWays_204 (fun r42 s41 => ?_)
        refine rf_bipush C (v := (nI 10)) dX12_sideWays_207 rfl ?_
        refine rf_isub C dX12_sideWays_209 ?_
        refine rf_iload C dX12_sideWays_210 5 rfl ?_
        refine rf_iload C dX12_sideWays_212 6 rfl ?_
        refine rf_callVl C (rmc := rmOf 0 0) [.int (r42 - (nI 10)), .int v17, .int v36] (by decide) (mX12_waysOf (gL Γ) (r42 - (nI 10)) v17 v36 s41) mfX12_waysOf mvX12_waysOf mlX12_280 rfl oX12 rfl rfl rfl (Nat.le_of_ble_eq_true rfl) ⟨Nat.le_of_ble_eq_true rfl, Nat.le_of_ble_eq_true rfl⟩ dX12_sideWays_214 (fun r44 s43 => ?_)
        refine rf_lmul C dX12_sideWays_217 ?_
        refine rf_ladd C dX12_sideWays_218 ?_
        refine rf_callSl C (rmc := rmOf 0 0) [.long (u39 + (u40 * r44))] (by decide) (mX12_held (gL Γ) (u39 + (u40 * r44)) s43) mfX12_held msX12_held mlX12_276 rfl rfl rfl (Nat.le_of_ble_eq_true rfl) ⟨Nat.le_of_ble_eq_true rfl, Nat.le_of_ble_eq_true rfl⟩ dX12_sideWays_219 (fun r46 s45 => ?_)
        refine rf_last C ar170 dX12_sideWays_222 (fun s47 => ?_)
        refine rf_iinc C (fun v48 => [(6, .int v48), (0, .ref ((gE Γ).2.1 148)), (1, .int a1), (2, .int a2), (3, .int a3), (4, .int v6), (5, .int v17)]) dX12_sideWays_223 6 rfl rfl (by decide) (fun _ => rfl) (fun v48 => ?_)
        refine rf_goto C 173 dX12_sideWays_226 (by decide) ?_
        exact rf_sub [1, 2, 3, 4, 5, 6, 0] rfl (hrec38 v48 s47 trivial)
      refine rf_lcmp_le C 157 dX12_sideWays_86 dX12_sideWays_87 (by decide) (fun _ => ?_) (fun _ => ?_)
      · exact rf_sub [0, 1, 2, 3, 4, 5] rfl (hj33 s18 trivial)
      refine rf_aload_n C dX12_sideWays_90 rfl 0 rfl ?_
      refine rf_iload_n C dX12_sideWays_91 rfl 1 rfl ?_
      refine rf_iload C dX12_sideWays_92 4 rfl ?_
      refine rf_callVi C (rmc := rmOf 0 0) [.int a1, .int v6] (by decide) (mX12_at (gL Γ) a1 v6 s18) mfX12_at mvX12_at mlX12_109 rfl oX12 rfl rfl rfl (Nat.le_of_ble_eq_true rfl) ⟨Nat.le_of_ble_eq_true rfl, Nat.le_of_ble_eq_true rfl⟩ dX12_sideWays_94 (fun r50 s49 => ?_)
      refine rf_bipush C (v := (nI 10)) dX12_sideWays_97 rfl ?_
      refine rf_icmp_ge C 157 dX12_sideWays_99 (by decide) (fun _ => ?_) (fun _ => ?_)
      · exact rf_sub [0, 1, 2, 3, 4, 5] rfl (hj33 s49 trivial)
      refine rf_iload C dX12_sideWays_102 5 rfl ?_
      refine rf_iload_n C dX12_sideWays_104 rfl 3 rfl ?_
      refine rf_icmp_ge C 229 dX12_sideWays_105 (by decide) (fun _ => ?_) (fun _ => ?_)
      · exact rf_sub [0, 1, 2, 3, 4, 5] rfl (hj30 s49 trivial)
      refine rf_aload_n C dX12_sideWays_108 rfl 0 rfl ?_
      refine rf_get C (v := .ref ((gE Γ).2.1 166)) cfX12 flX12_66 (by decide) oX12 rfl dX12_sideWays_109 ?_
      refine rf_iload C dX12_sideWays_112 5 rfl ?_
      refine rf_iald C ar166 dX12_sideWays_114 (fun v51 => ?_)
      refine rf_aload_n C dX12_sideWays_115 rfl 0 rfl ?_
      refine rf_iload_n C dX12_sideWays_116 rfl 1 rfl ?_
      refine rf_iload C dX12_sideWays_117 4 rfl ?_
      refine rf_callVi C (rmc := rmOf 0 0) [.int a1, .int v6] (by decide) (mX12_at (gL Γ) a1 v6 s49) mfX12_at mvX12_at mlX12_109 rfl oX12 rfl rfl rfl (Nat.le_of_ble_eq_true rfl) ⟨Nat.le_of_ble_eq_true rfl, Nat.le_of_ble_eq_true rfl⟩ dX12_sideWays_119 (fun r53 s52 => ?_)
      refine rf_icmp_ne C 229 dX12_sideWays_122 (by decide) (fun _ => ?_) (fun _ => ?_)
      · exact rf_sub [0, 1, 2, 3, 4, 5] rfl (hj30 s52 trivial)
      refine rf_aload_n C dX12_sideWays_125 rfl 0 rfl ?_
      refine rf_get C (v := .ref ((gE Γ).2.1 170)) cfX12 flX12_79 (by decide) oX12 rfl dX12_sideWays_126 ?_
      refine rf_iload C dX12_sideWays_129 5 rfl ?_
      refine rf_iconst C (v := (nI 1)) dX12_sideWays_131 rfl ?_
      refine rf_iadd C dX12_sideWays_132 ?_
      refine rf_aload_n C dX12_sideWays_133 rfl 0 rfl ?_
      refine rf_get C (v := .ref ((gE Γ).2.1 170)) cfX12 flX12_79 (by decide) oX12 rfl dX12_sideWays_134 ?_
      refine rf_iload C dX12_sideWays_137 5 rfl ?_
      refine rf_iconst C (v := (nI 1)) dX12_sideWays_139 rfl ?_
      refine rf_iadd C dX12_sideWays_140 ?_
      refine rf_lald C ar170 dX12_sideWays_141 (fun u54 => ?_)
      refine rf_aload_n C dX12_sideWays_142 rfl 0 rfl ?_
      refine rf_get C (v := .ref ((gE Γ).2.1 169)) cfX12 flX12_76 (by decide) oX12 rfl dX12_sideWays_143 ?_
      refine rf_iload C dX12_sideWays_146 5 rfl ?_
      refine rf_lald C ar169 dX12_sideWays_148 (fun u55 => ?_)
      refine rf_ladd C dX12_sideWays_149 ?_
      refine rf_callSl C (rmc := rmOf 0 0) [.long (u54 + u55)] (by decide) (mX12_held (gL Γ) (u54 + u55) s52) mfX12_held msX12_held mlX12_276 rfl rfl rfl (Nat.le_of_ble_eq_true rfl) ⟨Nat.le_of_ble_eq_true rfl, Nat.le_of_ble_eq_true rfl⟩ dX12_sideWays_150 (fun r57 s56 => ?_)
      refine rf_last C ar170 dX12_sideWays_153 (fun s58 => ?_)
      refine rf_goto C 229 dX12_sideWays_154 (by decide) ?_
      exact rf_sub [0, 1, 2, 3, 4, 5] rfl (hj30 s58 trivial)
    refine rf_aload_n C dX12_sideWays_55 rfl 0 rfl ?_
    refine rf_get C (v := .ref ((gE Γ).2.1 170)) cfX12 flX12_79 (by decide) oX12 rfl dX12_sideWays_56 ?_
    refine rf_iload C dX12_sideWays_59 5 rfl ?_
    refine rf_lconst C (v := (0 : Int64)) dX12_sideWays_61 rfl ?_
    refine rf_last C ar170 dX12_sideWays_62 (fun s59 => ?_)
    refine rf_iinc C (fun v60 => [(5, .int v60), (0, .ref ((gE Γ).2.1 148)), (1, .int a1), (2, .int a2), (3, .int a3), (4, .int v6)]) dX12_sideWays_63 5 rfl rfl (by decide) (fun _ => rfl) (fun v60 => ?_)
    refine rf_goto C 49 dX12_sideWays_66 (by decide) ?_
    exact rf_sub [1, 2, 3, 4, 5, 0] rfl (hrec15 v60 s59 trivial)
  refine rf_aload_n C dX12_sideWays_9 rfl 0 rfl ?_
  refine rf_get C (v := .ref ((gE Γ).2.1 169)) cfX12 flX12_76 (by decide) oX12 rfl dX12_sideWays_10 ?_
  refine rf_iload C dX12_sideWays_13 4 rfl ?_
  refine rf_iload C dX12_sideWays_15 4 rfl ?_
  refine rf_iload_n C dX12_sideWays_17 rfl 2 rfl ?_
  refine rf_jn2 (fun _ _ => True) (fun _ s62 => s62) (fun u61 s62 => [(0, .ref ((gE Γ).2.1 148)), (1, .int a1), (2, .int a2), (3, .int a3), (4, .int v2)]) (fun u61 s62 => [.long u61, .int v2, .ref ((gE Γ).2.1 169)]) 26 (fun u61 s62 _ => ?_) (fun j63 hj63 => ?_)
  · refine rf_last C ar169 dX12_sideWays_26 (fun s64 => ?_)
    refine rf_iinc C (fun v65 => [(4, .int v65), (0, .ref ((gE Γ).2.1 148)), (1, .int a1), (2, .int a2), (3, .int a3)]) dX12_sideWays_27 4 rfl rfl (by decide) (fun _ => rfl) (fun v65 => ?_)
    refine rf_goto C 3 dX12_sideWays_30 (by decide) ?_
    exact rf_sub [1, 2, 3, 4, 0] rfl (hrec4 v65 s64 trivial)
  refine rf_icmp_ne C 25 dX12_sideWays_18 (by decide) (fun _ => ?_) (fun _ => ?_)
  · refine rf_lconst C (v := (0 : Int64)) dX12_sideWays_25 rfl ?_
    exact rf_sub [0, 1, 2, 3, 4] rfl (hj63 (0 : Int64) s3 trivial)
  refine rf_lconst C (v := (1 : Int64)) dX12_sideWays_21 rfl ?_
  refine rf_goto C 26 dX12_sideWays_22 (by decide) ?_
  exact rf_sub [0, 1, 2, 3, 4] rfl (hj63 (1 : Int64) s3 trivial)

def fX12_weighs (n : Nat) (a1 : Int32) (a2 : Int32) (s0 : PH) : Option (Unit × PH) :=
(lt (nI 0) fun (v1 : Int32) =>
(loo2 (fun (recrec4 : Int32 → PH → Option (Unit × PH)) (v2 : Int32) (s3 : PH) =>
(if (nI 6) ≤ v2 then
(lt (nI 0) fun (v5 : Int32) =>
(loo2 (fun (recrec8 : Int32 → PH → Option (Unit × PH)) (v6 : Int32) (s7 : PH) =>
(bd (fX12_many s7) fun (r10 : Int32) (s9 : PH) =>
(if r10 ≤ v6 then
(lt (nI 0) fun (v11 : Int32) =>
(loo2 (fun (recrec14 : Int32 → PH → Option (Unit × PH)) (v12 : Int32) (s13 : PH) =>
(if (nI 6) ≤ v12 then
(some ((), s13))
else
(ra 6 v12 (s13.2.1 171) fun (u15 : Int64) =>
(wa 486 ((((nI 81) * v12) + ((nI 9) * a1)) + a2) (lt (sl s13 168 ((((nI 81) * v12) + ((nI 9) * a1)) + a2).toNatClampNeg u15) fun (s16 : PH) =>
(lt (v12 + (nI 1)) fun (v17 : Int32) =>
(recrec14 v17 s16))))))) n v11 s9))
else
(bd (fX12_left v6 s9) fun (r19 : Int32) (s18 : PH) =>
(ra 6 r19 (s18.1 155) fun (v20 : Int32) =>
(jn (fun (s21 : PH) =>
(lt (v6 + (nI 1)) fun (v23 : Int32) =>
(recrec8 v23 s21))) (fun (j22 : PH → Option (Unit × PH)) =>
(if v20 = 0 then
(j22 s18)
else
(bd (fX12_left v6 s18) fun (r25 : Int32) (s24 : PH) =>
(bd (fX12_left v6 s24) fun (r27 : Int32) (s26 : PH) =>
(ra 6 r27 (s26.2.1 171) fun (u28 : Int64) =>
(bd (fX12_sideWays n v6 a1 a2 s26) fun (r30 : Int64) (s29 : PH) =>
(bd (fX12_held (u28 + r30) s29) fun (r32 : Int64) (s31 : PH) =>
(wa 6 r25 (lt (sl s31 171 r25.toNatClampNeg r32) fun (s33 : PH) =>
(j22 s33)))))))))))))))) n v5 s3))
else
(wa 6 v2 (lt (sl s3 171 v2.toNatClampNeg (0 : Int64)) fun (s34 : PH) =>
(lt (v2 + (nI 1)) fun (v35 : Int32) =>
(recrec4 v35 s34)))))) n v1 s0))
set_option maxRecDepth 20000 in
set_option maxHeartbeats 2000000 in
theorem mX12_weighs (l : Launch) (n : Nat) (a1 : Int32) (a2 : Int32) (s0 : PH) : Ctv 174 l yX12_weighs cX12_weighs 4 none (rmOf 2 49) (fun E => [.ref (E.2.1 148), .int a1, .int a2]) s0 (fX12_weighs n a1 a2 s0) := by
  refine Ctv.of (by decide) rfl (lv := fun E => [(0, .ref (E.2.1 148)), (1, .int a1), (2, .int a2)]) (fun _ => Nat.le_of_ble_eq_true rfl) (fun _ => rfl) (fun Γ hΓ _ C => ?_)
  subst hΓ
  unfold fX12_weighs
  refine rf_iconst C (v := (nI 0)) dX12_weighs_0 rfl ?_
  refine rf_istore_n C (fun v1 => [(3, .int v1), (0, .ref ((gE Γ).2.1 148)), (1, .int a1), (2, .int a2)]) dX12_weighs_1 rfl (by decide) (fun _ => rfl) (fun v1 => ?_)
  refine rf_sub [1, 2, 3, 0] rfl ?_
  refine rf_loo2 (fun _ _ => True) (fun _ s3 => s3) (fun v2 s3 => [(0, .ref ((gE Γ).2.1 148)), (1, .int a1), (2, .int a2), (3, .int v2)]) (fun recrec4 hrec4 v2 s3 _ => ?_) n v1 s0 trivial
  refine rf_iload_n C dX12_weighs_2 rfl 3 rfl ?_
  refine rf_bipush C (v := (nI 6)) dX12_weighs_3 rfl ?_
  refine rf_icmp_ge C 21 dX12_weighs_5 (by decide) (fun _ => ?_) (fun _ => ?_)
  · refine rf_iconst C (v := (nI 0)) dX12_weighs_21 rfl ?_
    refine rf_istore_n C (fun v5 => [(3, .int v5), (0, .ref ((gE Γ).2.1 148)), (1, .int a1), (2, .int a2)]) dX12_weighs_22 rfl (by decide) (fun _ => rfl) (fun v5 => ?_)
    refine rf_sub [1, 2, 3, 0] rfl ?_
    refine rf_loo2 (fun _ _ => True) (fun _ s7 => s7) (fun v6 s7 => [(0, .ref ((gE Γ).2.1 148)), (1, .int a1), (2, .int a2), (3, .int v6)]) (fun recrec8 hrec8 v6 s7 _ => ?_) n v5 s3 trivial
    refine rf_iload_n C dX12_weighs_23 rfl 3 rfl ?_
    refine rf_aload_n C dX12_weighs_24 rfl 0 rfl ?_
    refine rf_callVi C (rmc := rmOf 0 0) [] (by decide) (mX12_many (gL Γ) s7) mfX12_many mvX12_many mlX12_94 rfl oX12 rfl rfl rfl (Nat.le_of_ble_eq_true rfl) ⟨Nat.le_of_ble_eq_true rfl, Nat.le_of_ble_eq_true rfl⟩ dX12_weighs_25 (fun r10 s9 => ?_)
    refine rf_icmp_ge C 81 dX12_weighs_28 (by decide) (fun _ => ?_) (fun _ => ?_)
    · refine rf_iconst C (v := (nI 0)) dX12_weighs_81 rfl ?_
      refine rf_istore_n C (fun v11 => [(3, .int v11), (0, .ref ((gE Γ).2.1 148)), (1, .int a1), (2, .int a2)]) dX12_weighs_82 rfl (by decide) (fun _ => rfl) (fun v11 => ?_)
      refine rf_sub [1, 2, 3, 0] rfl ?_
      refine rf_loo2 (fun _ _ => True) (fun _ s13 => s13) (fun v12 s13 => [(0, .ref ((gE Γ).2.1 148)), (1, .int a1), (2, .int a2), (3, .int v12)]) (fun recrec14 hrec14 v12 s13 _ => ?_) n v11 s9 trivial
      refine rf_iload_n C dX12_weighs_83 rfl 3 rfl ?_
      refine rf_bipush C (v := (nI 6)) dX12_weighs_84 rfl ?_
      refine rf_icmp_ge C 117 dX12_weighs_86 (by decide) (fun _ => ?_) (fun _ => ?_)
      · exact rf_vret C dX12_weighs_117
      refine rf_aload_n C dX12_weighs_89 rfl 0 rfl ?_
      refine rf_get C (v := .ref ((gE Γ).2.1 168)) cfX12 flX12_72 (by decide) oX12 rfl dX12_weighs_90 ?_
      refine rf_bipush C (v := (nI 81)) dX12_weighs_93 rfl ?_
      refine rf_iload_n C dX12_weighs_95 rfl 3 rfl ?_
      refine rf_imul C dX12_weighs_96 ?_
      refine rf_bipush C (v := (nI 9)) dX12_weighs_97 rfl ?_
      refine rf_iload_n C dX12_weighs_99 rfl 1 rfl ?_
      refine rf_imul C dX12_weighs_100 ?_
      refine rf_iadd C dX12_weighs_101 ?_
      refine rf_iload_n C dX12_weighs_102 rfl 2 rfl ?_
      refine rf_iadd C dX12_weighs_103 ?_
      refine rf_aload_n C dX12_weighs_104 rfl 0 rfl ?_
      refine rf_get C (v := .ref ((gE Γ).2.1 171)) cfX12 flX12_82 (by decide) oX12 rfl dX12_weighs_105 ?_
      refine rf_iload_n C dX12_weighs_108 rfl 3 rfl ?_
      refine rf_lald C ar171 dX12_weighs_109 (fun u15 => ?_)
      refine rf_last C ar168 dX12_weighs_110 (fun s16 => ?_)
      refine rf_iinc C (fun v17 => [(3, .int v17), (0, .ref ((gE Γ).2.1 148)), (1, .int a1), (2, .int a2)]) dX12_weighs_111 3 rfl rfl (by decide) (fun _ => rfl) (fun v17 => ?_)
      refine rf_goto C 83 dX12_weighs_114 (by decide) ?_
      exact rf_sub [1, 2, 3, 0] rfl (hrec14 v17 s16 trivial)
    refine rf_aload_n C dX12_weighs_31 rfl 0 rfl ?_
    refine rf_get C (v := .ref ((gE Γ).2.1 155)) cfX12 flX12_33 (by decide) oX12 rfl dX12_weighs_32 ?_
    refine rf_aload_n C dX12_weighs_35 rfl 0 rfl ?_
    refine rf_iload_n C dX12_weighs_36 rfl 3 rfl ?_
    refine rf_callVi C (rmc := rmOf 0 0) [.int v6] (by decide) (mX12_left (gL Γ) v6 s9) mfX12_left mvX12_left mlX12_102 rfl oX12 rfl rfl rfl (Nat.le_of_ble_eq_true rfl) ⟨Nat.le_of_ble_eq_true rfl, Nat.le_of_ble_eq_true rfl⟩ dX12_weighs_37 (fun r19 s18 => ?_)
    refine rf_zald C ar155 dX12_weighs_40 (fun v20 => ?_)
    refine rf_jn1 (fun _ => True) (fun  s21 => s21) (fun s21 => [(0, .ref ((gE Γ).2.1 148)), (1, .int a1), (2, .int a2), (3, .int v6)]) (fun s21 => []) 75 (fun s21 _ => ?_) (fun j22 hj22 => ?_)
    · refine rf_iinc C (fun v23 => [(3, .int v23), (0, .ref ((gE Γ).2.1 148)), (1, .int a1), (2, .int a2)]) dX12_weighs_75 3 rfl rfl (by decide) (fun _ => rfl) (fun v23 => ?_)
      refine rf_goto C 23 dX12_weighs_78 (by decide) ?_
      exact rf_sub [1, 2, 3, 0] rfl (hrec8 v23 s21 trivial)
    refine rf_if_eq C 75 dX12_weighs_41 (by decide) (fun _ => ?_) (fun _ => ?_)
    · exact rf_sub [0, 1, 2, 3] rfl (hj22 s18 trivial)
    refine rf_aload_n C dX12_weighs_44 rfl 0 rfl ?_
    refine rf_get C (v := .ref ((gE Γ).2.1 171)) cfX12 flX12_82 (by decide) oX12 rfl dX12_weighs_45 ?_
    refine rf_aload_n C dX12_weighs_48 rfl 0 rfl ?_
    refine rf_iload_n C dX12_weighs_49 rfl 3 rfl ?_
    refine rf_callVi C (rmc := rmOf 0 0) [.int v6] (by decide) (mX12_left (gL Γ) v6 s18) mfX12_left mvX12_left mlX12_102 rfl oX12 rfl rfl rfl (Nat.le_of_ble_eq_true rfl) ⟨Nat.le_of_ble_eq_true rfl, Nat.le_of_ble_eq_true rfl⟩ dX12_weighs_50 (fun r25 s24 => ?_)
    refine rf_aload_n C dX12_weighs_53 rfl 0 rfl ?_
    refine rf_get C (v := .ref ((gE Γ).2.1 171)) cfX12 flX12_82 (by decide) oX12 rfl dX12_weighs_54 ?_
    refine rf_aload_n C dX12_weighs_57 rfl 0 rfl ?_
    refine rf_iload_n C dX12_weighs_58 rfl 3 rfl ?_
    refine rf_callVi C (rmc := rmOf 0 0) [.int v6] (by decide) (mX12_left (gL Γ) v6 s24) mfX12_left mvX12_left mlX12_102 rfl oX12 rfl rfl rfl (Nat.le_of_ble_eq_true rfl) ⟨Nat.le_of_ble_eq_true rfl, Nat.le_of_ble_eq_true rfl⟩ dX12_weighs_59 (fun r27 s26 => ?_)
    refine rf_lald C ar171 dX12_weighs_62 (fun u28 => ?_)
    refine rf_aload_n C dX12_weighs_63 rfl 0 rfl ?_
    refine rf_iload_n C dX12_weighs_64 rfl 3 rfl ?_
    refine rf_iload_n C dX12_weighs_65 rfl 1 rfl ?_
    refine rf_iload_n C dX12_weighs_66 rfl 2 rfl ?_
    refine rf_callVl C (rmc := rmOf 1 23) [.int v6, .int a1, .int a2] (by decide) (mX12_sideWays (gL Γ) n v6 a1 a2 s26) mfX12_sideWays mvX12_sideWays mlX12_287 rfl oX12 rfl rfl rfl (Nat.le_of_ble_eq_true rfl) ⟨Nat.le_of_ble_eq_true rfl, Nat.le_of_ble_eq_true rfl⟩ dX12_weighs_67 (fun r30 s29 => ?_)
    refine rf_ladd C dX12_weighs_70 ?_
    refine rf_callSl C (rmc := rmOf 0 0) [.long (u28 + r30)] (by decide) (mX12_held (gL Γ) (u28 + r30) s29) mfX12_held msX12_held mlX12_276 rfl rfl rfl (Nat.le_of_ble_eq_true rfl) ⟨Nat.le_of_ble_eq_true rfl, Nat.le_of_ble_eq_true rfl⟩ dX12_weighs_71 (fun r32 s31 => ?_)
    refine rf_last C ar171 dX12_weighs_74 (fun s33 => ?_)
    exact rf_sub [0, 1, 2, 3] rfl (hj22 s33 trivial)
  refine rf_aload_n C dX12_weighs_8 rfl 0 rfl ?_
  refine rf_get C (v := .ref ((gE Γ).2.1 171)) cfX12 flX12_82 (by decide) oX12 rfl dX12_weighs_9 ?_
  refine rf_iload_n C dX12_weighs_12 rfl 3 rfl ?_
  refine rf_lconst C (v := (0 : Int64)) dX12_weighs_13 rfl ?_
  refine rf_last C ar171 dX12_weighs_14 (fun s34 => ?_)
  refine rf_iinc C (fun v35 => [(3, .int v35), (0, .ref ((gE Γ).2.1 148)), (1, .int a1), (2, .int a2)]) dX12_weighs_15 3 rfl rfl (by decide) (fun _ => rfl) (fun v35 => ?_)
  refine rf_goto C 2 dX12_weighs_18 (by decide) ?_
  exact rf_sub [1, 2, 3, 0] rfl (hrec4 v35 s34 trivial)

def fX12_laysWays (n : Nat) (s0 : PH) : Option (Unit × PH) :=
(lt (nI 0) fun (v1 : Int32) =>
(loo2 (fun (recrec4 : Int32 → PH → Option (Unit × PH)) (v2 : Int32) (s3 : PH) =>
(if (nI 486) ≤ v2 then
(lt (nI 0) fun (v5 : Int32) =>
(loo2 (fun (recrec8 : Int32 → PH → Option (Unit × PH)) (v6 : Int32) (s7 : PH) =>
(if (s7.1 148 24) < v6 then
(some ((), s7))
else
(lt (nI 0) fun (v9 : Int32) =>
(loo2 (fun (recrec12 : Int32 → PH → Option (Unit × PH)) (v10 : Int32) (s11 : PH) =>
(if (s11.1 148 24) < (v10 + v6) then
(lt (v6 + (nI 1)) fun (v13 : Int32) =>
(recrec8 v13 s11))
else
(lt (nI 0) fun (v14 : Int32) =>
(loo2 (fun (recrec17 : Int32 → PH → Option (Unit × PH)) (v15 : Int32) (s16 : PH) =>
(if (nI 6) < v15 then
(lt (v10 + (nI 1)) fun (v18 : Int32) =>
(recrec12 v18 s16))
else
(bd (fX12_weighs n v10 (v10 + v6) s16) fun _ (s19 : PH) =>
(lt (v15 + (nI 1)) fun (v20 : Int32) =>
(recrec17 v20 s19))))) n v14 s11)))) n v9 s7)))) n v5 s3))
else
(wa 486 v2 (lt (sl s3 168 v2.toNatClampNeg (0 : Int64)) fun (s21 : PH) =>
(lt (v2 + (nI 1)) fun (v22 : Int32) =>
(recrec4 v22 s21)))))) n v1 s0))
set_option maxRecDepth 20000 in
set_option maxHeartbeats 2000000 in
theorem mX12_laysWays (l : Launch) (n : Nat) (s0 : PH) : Ctv 174 l yX12_laysWays cX12_laysWays 4 none (rmOf 3 72) (fun E => [.ref (E.2.1 148)]) s0 (fX12_laysWays n s0) := by
  refine Ctv.of (by decide) rfl (lv := fun E => [(0, .ref (E.2.1 148))]) (fun _ => Nat.le_of_ble_eq_true rfl) (fun _ => rfl) (fun Γ hΓ _ C => ?_)
  subst hΓ
  unfold fX12_laysWays
  refine rf_iconst C (v := (nI 0)) dX12_laysWays_0 rfl ?_
  refine rf_istore_n C (fun v1 => [(1, .int v1), (0, .ref ((gE Γ).2.1 148))]) dX12_laysWays_1 rfl (by decide) (fun _ => rfl) (fun v1 => ?_)
  refine rf_sub [1, 0] rfl ?_
  refine rf_loo2 (fun _ _ => True) (fun _ s3 => s3) (fun v2 s3 => [(0, .ref ((gE Γ).2.1 148)), (1, .int v2)]) (fun recrec4 hrec4 v2 s3 _ => ?_) n v1 s0 trivial
  refine rf_iload_n C dX12_laysWays_2 rfl 1 rfl ?_
  refine rf_sipush C (v := (nI 486)) dX12_laysWays_3 rfl ?_
  refine rf_icmp_ge C 22 dX12_laysWays_6 (by decide) (fun _ => ?_) (fun _ => ?_)
  · refine rf_iconst C (v := (nI 0)) dX12_laysWays_22 rfl ?_
    refine rf_istore_n C (fun v5 => [(1, .int v5), (0, .ref ((gE Γ).2.1 148))]) dX12_laysWays_23 rfl (by decide) (fun _ => rfl) (fun v5 => ?_)
    refine rf_sub [1, 0] rfl ?_
    refine rf_loo2 (fun _ _ => True) (fun _ s7 => s7) (fun v6 s7 => [(0, .ref ((gE Γ).2.1 148)), (1, .int v6)]) (fun recrec8 hrec8 v6 s7 _ => ?_) n v5 s3 trivial
    refine rf_iload_n C dX12_laysWays_24 rfl 1 rfl ?_
    refine rf_aload_n C dX12_laysWays_25 rfl 0 rfl ?_
    refine rf_get C (v := .int (s7.1 148 24)) cfX12 flX12_251 (by decide) oX12 rfl dX12_laysWays_26 ?_
    refine rf_icmp_gt C 78 dX12_laysWays_29 (by decide) (fun _ => ?_) (fun _ => ?_)
    · exact rf_vret C dX12_laysWays_78
    refine rf_iconst C (v := (nI 0)) dX12_laysWays_32 rfl ?_
    refine rf_istore_n C (fun v9 => [(2, .int v9), (0, .ref ((gE Γ).2.1 148)), (1, .int v6)]) dX12_laysWays_33 rfl (by decide) (fun _ => rfl) (fun v9 => ?_)
    refine rf_sub [1, 2, 0] rfl ?_
    refine rf_loo2 (fun _ _ => True) (fun _ s11 => s11) (fun v10 s11 => [(0, .ref ((gE Γ).2.1 148)), (1, .int v6), (2, .int v10)]) (fun recrec12 hrec12 v10 s11 _ => ?_) n v9 s7 trivial
    refine rf_iload_n C dX12_laysWays_34 rfl 2 rfl ?_
    refine rf_iload_n C dX12_laysWays_35 rfl 1 rfl ?_
    refine rf_iadd C dX12_laysWays_36 ?_
    refine rf_aload_n C dX12_laysWays_37 rfl 0 rfl ?_
    refine rf_get C (v := .int (s11.1 148 24)) cfX12 flX12_251 (by decide) oX12 rfl dX12_laysWays_38 ?_
    refine rf_icmp_gt C 72 dX12_laysWays_41 (by decide) (fun _ => ?_) (fun _ => ?_)
    · refine rf_iinc C (fun v13 => [(1, .int v13), (0, .ref ((gE Γ).2.1 148)), (2, .int v10)]) dX12_laysWays_72 1 rfl rfl (by decide) (fun _ => rfl) (fun v13 => ?_)
      refine rf_goto C 24 dX12_laysWays_75 (by decide) ?_
      exact rf_sub [1, 0] rfl (hrec8 v13 s11 trivial)
    refine rf_iconst C (v := (nI 0)) dX12_laysWays_44 rfl ?_
    refine rf_istore_n C (fun v14 => [(3, .int v14), (0, .ref ((gE Γ).2.1 148)), (1, .int v6), (2, .int v10)]) dX12_laysWays_45 rfl (by decide) (fun _ => rfl) (fun v14 => ?_)
    refine rf_sub [1, 2, 3, 0] rfl ?_
    refine rf_loo2 (fun _ _ => True) (fun _ s16 => s16) (fun v15 s16 => [(0, .ref ((gE Γ).2.1 148)), (1, .int v6), (2, .int v10), (3, .int v15)]) (fun recrec17 hrec17 v15 s16 _ => ?_) n v14 s11 trivial
    refine rf_iload_n C dX12_laysWays_46 rfl 3 rfl ?_
    refine rf_bipush C (v := (nI 6)) dX12_laysWays_47 rfl ?_
    refine rf_icmp_gt C 66 dX12_laysWays_49 (by decide) (fun _ => ?_) (fun _ => ?_)
    · refine rf_iinc C (fun v18 => [(2, .int v18), (0, .ref ((gE Γ).2.1 148)), (1, .int v6), (3, .int v15)]) dX12_laysWays_66 2 rfl rfl (by decide) (fun _ => rfl) (fun v18 => ?_)
      refine rf_goto C 34 dX12_laysWays_69 (by decide) ?_
      exact rf_sub [1, 2, 0] rfl (hrec12 v18 s16 trivial)
    refine rf_aload_n C dX12_laysWays_52 rfl 0 rfl ?_
    refine rf_iload_n C dX12_laysWays_53 rfl 2 rfl ?_
    refine rf_iload_n C dX12_laysWays_54 rfl 2 rfl ?_
    refine rf_iload_n C dX12_laysWays_55 rfl 1 rfl ?_
    refine rf_iadd C dX12_laysWays_56 ?_
    refine rf_callVv C (rmc := rmOf 2 49) [.int v10, .int (v10 + v6)] (by decide) (mX12_weighs (gL Γ) n v10 (v10 + v6) s16) mfX12_weighs mvX12_weighs mlX12_284 rfl oX12 rfl rfl rfl (Nat.le_of_ble_eq_true rfl) ⟨Nat.le_of_ble_eq_true rfl, Nat.le_of_ble_eq_true rfl⟩ dX12_laysWays_57 (fun s19 => ?_)
    refine rf_iinc C (fun v20 => [(3, .int v20), (0, .ref ((gE Γ).2.1 148)), (1, .int v6), (2, .int v10)]) dX12_laysWays_60 3 rfl rfl (by decide) (fun _ => rfl) (fun v20 => ?_)
    refine rf_goto C 46 dX12_laysWays_63 (by decide) ?_
    exact rf_sub [1, 2, 3, 0] rfl (hrec17 v20 s19 trivial)
  refine rf_aload_n C dX12_laysWays_9 rfl 0 rfl ?_
  refine rf_get C (v := .ref ((gE Γ).2.1 168)) cfX12 flX12_72 (by decide) oX12 rfl dX12_laysWays_10 ?_
  refine rf_iload_n C dX12_laysWays_13 rfl 1 rfl ?_
  refine rf_lconst C (v := (0 : Int64)) dX12_laysWays_14 rfl ?_
  refine rf_last C ar168 dX12_laysWays_15 (fun s21 => ?_)
  refine rf_iinc C (fun v22 => [(1, .int v22), (0, .ref ((gE Γ).2.1 148))]) dX12_laysWays_16 1 rfl rfl (by decide) (fun _ => rfl) (fun v22 => ?_)
  refine rf_goto C 2 dX12_laysWays_19 (by decide) ?_
  exact rf_sub [1, 0] rfl (hrec4 v22 s21 trivial)

def fX12_derivations (n : Nat) (s0 : PH) : Option (Int32 × PH) :=
(bd (fX12_someReached n 157 36 s0) fun (r2 : Int32) (s1 : PH) =>
(if r2 = 0 then
(bd (fX12_laysInput n s1) fun (r4 : Int32) (s3 : PH) =>
(lt r4 fun (v5 : Int32) =>
(if v5 = (-9 : Int32) then
(bd (fX12_laysWays n s3) fun _ (s6 : PH) =>
(bd (fX12_start s6) fun (r8 : Int32) (s7 : PH) =>
(bd (fX12_waysOf r8 (nI 0) (s7.1 148 24) s7) fun (r10 : Int64) (s9 : PH) =>
(some (r10.toInt32, s9)))))
else
(some (((-100 : Int32) - v5), s3)))))
else
(some ((-2 : Int32), s1))))
set_option maxRecDepth 20000 in
set_option maxHeartbeats 2000000 in
theorem mX12_derivations (l : Launch) (n : Nat) (s0 : PH) : Cti 174 l yX12_derivations cX12_derivations 2 (some .int) (rmOf 4 95) (fun E => [.ref (E.2.1 148)]) s0 (fX12_derivations n s0) := by
  refine Cti.of (by decide) rfl (lv := fun E => [(0, .ref (E.2.1 148))]) (fun _ => Nat.le_of_ble_eq_true rfl) (fun _ => rfl) (fun Γ hΓ _ C => ?_)
  subst hΓ
  unfold fX12_derivations
  refine rf_aload_n C dX12_derivations_0 rfl 0 rfl ?_
  refine rf_aload_n C dX12_derivations_1 rfl 0 rfl ?_
  refine rf_get C (v := .ref ((gE Γ).2.1 157)) cfX12 flX12_39 (by decide) oX12 rfl dX12_derivations_2 ?_
  refine rf_callVi C (rmc := rmOf 0 0) [.ref ((gE Γ).2.1 157)] (by decide) (mX12_someReached (gL Γ) n 157 36 s0 ar157) mfX12_someReached mvX12_someReached mlX12_264 rfl oX12 rfl rfl rfl (Nat.le_of_ble_eq_true rfl) ⟨Nat.le_of_ble_eq_true rfl, Nat.le_of_ble_eq_true rfl⟩ dX12_derivations_5 (fun r2 s1 => ?_)
  refine rf_if_eq C 14 dX12_derivations_8 (by decide) (fun _ => ?_) (fun _ => ?_)
  · refine rf_aload_n C dX12_derivations_14 rfl 0 rfl ?_
    refine rf_callVi C (rmc := rmOf 1 22) [] (by decide) (mX12_laysInput (gL Γ) n s1) mfX12_laysInput mvX12_laysInput mlX12_268 rfl oX12 rfl rfl rfl (Nat.le_of_ble_eq_true rfl) ⟨Nat.le_of_ble_eq_true rfl, Nat.le_of_ble_eq_true rfl⟩ dX12_derivations_15 (fun r4 s3 => ?_)
    refine rf_istore_n C (fun v5 => [(1, .int v5), (0, .ref ((gE Γ).2.1 148))]) dX12_derivations_18 rfl (by decide) (fun _ => rfl) (fun v5 => ?_)
    refine rf_iload_n C dX12_derivations_19 rfl 0 rfl ?_
    refine rf_bipush C (v := (-9 : Int32)) dX12_derivations_20 rfl ?_
    refine rf_icmp_eq C 30 dX12_derivations_22 (by decide) (fun _ => ?_) (fun _ => ?_)
    · refine rf_aload_n C dX12_derivations_30 rfl 1 rfl ?_
      refine rf_callVv C (rmc := rmOf 3 72) [] (by decide) (mX12_laysWays (gL Γ) n s3) mfX12_laysWays mvX12_laysWays mlX12_290 rfl oX12 rfl rfl rfl (Nat.le_of_ble_eq_true rfl) ⟨Nat.le_of_ble_eq_true rfl, Nat.le_of_ble_eq_true rfl⟩ dX12_derivations_31 (fun s6 => ?_)
      refine rf_aload_n C dX12_derivations_34 rfl 1 rfl ?_
      refine rf_aload_n C dX12_derivations_35 rfl 1 rfl ?_
      refine rf_callVi C (rmc := rmOf 0 0) [] (by decide) (mX12_start (gL Γ) s6) mfX12_start mvX12_start mlX12_124 rfl oX12 rfl rfl rfl (Nat.le_of_ble_eq_true rfl) ⟨Nat.le_of_ble_eq_true rfl, Nat.le_of_ble_eq_true rfl⟩ dX12_derivations_36 (fun r8 s7 => ?_)
      refine rf_iconst C (v := (nI 0)) dX12_derivations_39 rfl ?_
      refine rf_aload_n C dX12_derivations_40 rfl 1 rfl ?_
      refine rf_get C (v := .int (s7.1 148 24)) cfX12 flX12_251 (by decide) oX12 rfl dX12_derivations_41 ?_
      refine rf_callVl C (rmc := rmOf 0 0) [.int r8, .int (nI 0), .int (s7.1 148 24)] (by decide) (mX12_waysOf (gL Γ) r8 (nI 0) (s7.1 148 24) s7) mfX12_waysOf mvX12_waysOf mlX12_280 rfl oX12 rfl rfl rfl (Nat.le_of_ble_eq_true rfl) ⟨Nat.le_of_ble_eq_true rfl, Nat.le_of_ble_eq_true rfl⟩ dX12_derivations_44 (fun r10 s9 => ?_)
      refine rf_l2i C dX12_derivations_47 ?_
      exact rf_iret C dX12_derivations_48
    refine rf_bipush C (v := (-100 : Int32)) dX12_derivations_25 rfl ?_
    refine rf_iload_n C dX12_derivations_27 rfl 0 rfl ?_
    refine rf_isub C dX12_derivations_28 ?_
    exact rf_iret C dX12_derivations_29
  refine rf_bipush C (v := (-2 : Int32)) dX12_derivations_11 rfl ?_
  exact rf_iret C dX12_derivations_13

def fX12_puts (n : Nat) (a1 : Int32) (a2 : Int32) (s0 : PH) : Option (Unit × PH) :=
(wa 900 a1 (lt (si s0 172 a1.toNatClampNeg a2) fun (s1 : PH) =>
(lt (nI 0) fun (v2 : Int32) =>
(loo2 (fun (recrec5 : Int32 → PH → Option (Unit × PH)) (v3 : Int32) (s4 : PH) =>
(if (s4.1 148 24) < v3 then
(some ((), s4))
else
(lt (0 : Int64) fun (u6 : Int64) =>
(jn (fun (u7 : Int64) (s8 : PH) =>
(wa 8109 ((((nI 9) * a1) + (nI 9)) + v3) (lt (sl s8 173 ((((nI 9) * a1) + (nI 9)) + v3).toNatClampNeg u7) fun (s10 : PH) =>
(lt (v3 + (nI 1)) fun (v11 : Int32) =>
(recrec5 v11 s10))))) (fun (j9 : Int64 → PH → Option (Unit × PH)) =>
(if (nI 10) ≤ a2 then
(lt v3 fun (v12 : Int32) =>
(loo3 (fun (recrec16 : Int64 → Int32 → PH → Option (Unit × PH)) (u13 : Int64) (v14 : Int32) (s15 : PH) =>
(if (s15.1 148 24) < v14 then
(j9 u13 s15)
else
(bd (fX12_waysOf (a2 - (nI 10)) v3 v14 s15) fun (r18 : Int64) (s17 : PH) =>
(ra 8109 (((nI 9) * a1) + v14) (s17.2.1 173) fun (u19 : Int64) =>
(bd (fX12_held (u13 + (r18 * u19)) s17) fun (r21 : Int64) (s20 : PH) =>
(lt r21 fun (u22 : Int64) =>
(lt (v14 + (nI 1)) fun (v23 : Int32) =>
(recrec16 u22 v23 s20)))))))) n u6 v12 s4))
else
(jn (fun (u24 : Int64) (s25 : PH) =>
(lt u24 fun (u27 : Int64) =>
(j9 u27 s25))) (fun (j26 : Int64 → PH → Option (Unit × PH)) =>
(jn (fun (s28 : PH) =>
(j26 (0 : Int64) s28)) (fun (j29 : PH → Option (Unit × PH)) =>
(if (s4.1 148 24) ≤ v3 then
(j29 s4)
else
(ra 8 v3 (s4.1 166) fun (v30 : Int32) =>
(if v30 = a2 then
(ra 8109 ((((nI 9) * a1) + v3) + (nI 1)) (s4.2.1 173) fun (u31 : Int64) =>
(j26 u31 s4))
else
(j29 s4)))))))))))))) n v2 s1))))
set_option maxRecDepth 20000 in
set_option maxHeartbeats 2000000 in
theorem mX12_puts (l : Launch) (n : Nat) (a1 : Int32) (a2 : Int32) (s0 : PH) : Ctv 174 l yX12_puts cX12_puts 7 none (rmOf 1 23) (fun E => [.ref (E.2.1 148), .int a1, .int a2]) s0 (fX12_puts n a1 a2 s0) := by
  refine Ctv.of (by decide) rfl (lv := fun E => [(0, .ref (E.2.1 148)), (1, .int a1), (2, .int a2)]) (fun _ => Nat.le_of_ble_eq_true rfl) (fun _ => rfl) (fun Γ hΓ _ C => ?_)
  subst hΓ
  unfold fX12_puts
  refine rf_aload_n C dX12_puts_0 rfl 0 rfl ?_
  refine rf_get C (v := .ref ((gE Γ).2.1 172)) cfX12 flX12_85 (by decide) oX12 rfl dX12_puts_1 ?_
  refine rf_iload_n C dX12_puts_4 rfl 1 rfl ?_
  refine rf_iload_n C dX12_puts_5 rfl 2 rfl ?_
  refine rf_iast C ar172 dX12_puts_6 (fun s1 => ?_)
  refine rf_iconst C (v := (nI 0)) dX12_puts_7 rfl ?_
  refine rf_istore_n C (fun v2 => [(3, .int v2), (0, .ref ((gE Γ).2.1 148)), (1, .int a1), (2, .int a2)]) dX12_puts_8 rfl (by decide) (fun _ => rfl) (fun v2 => ?_)
  refine rf_sub [1, 2, 3, 0] rfl ?_
  refine rf_loo2 (fun _ _ => True) (fun _ s4 => s4) (fun v3 s4 => [(0, .ref ((gE Γ).2.1 148)), (1, .int a1), (2, .int a2), (3, .int v3)]) (fun recrec5 hrec5 v3 s4 _ => ?_) n v2 s1 trivial
  refine rf_iload_n C dX12_puts_9 rfl 3 rfl ?_
  refine rf_aload_n C dX12_puts_10 rfl 0 rfl ?_
  refine rf_get C (v := .int (s4.1 148 24)) cfX12 flX12_251 (by decide) oX12 rfl dX12_puts_11 ?_
  refine rf_icmp_gt C 138 dX12_puts_14 (by decide) (fun _ => ?_) (fun _ => ?_)
  · exact rf_vret C dX12_puts_138
  refine rf_lconst C (v := (0 : Int64)) dX12_puts_17 rfl ?_
  refine rf_lstore C (fun u6 => [(4, .long u6), (0, .ref ((gE Γ).2.1 148)), (1, .int a1), (2, .int a2), (3, .int v3)]) dX12_puts_18 (by decide) (fun _ => rfl) (fun u6 => ?_)
  refine rf_iload_n C dX12_puts_20 rfl 3 rfl ?_
  refine rf_bipush C (v := (nI 10)) dX12_puts_21 rfl ?_
  refine rf_jn2 (fun _ _ => True) (fun _ s8 => s8) (fun u7 s8 => [(0, .ref ((gE Γ).2.1 148)), (1, .int a1), (2, .int a2), (3, .int v3), (4, .long u7)]) (fun u7 s8 => []) 116 (fun u7 s8 _ => ?_) (fun j9 hj9 => ?_)
  · refine rf_aload_n C dX12_puts_116 rfl 0 rfl ?_
    refine rf_get C (v := .ref ((gE Γ).2.1 173)) cfX12 flX12_88 (by decide) oX12 rfl dX12_puts_117 ?_
    refine rf_bipush C (v := (nI 9)) dX12_puts_120 rfl ?_
    refine rf_iload_n C dX12_puts_122 rfl 1 rfl ?_
    refine rf_imul C dX12_puts_123 ?_
    refine rf_bipush C (v := (nI 9)) dX12_puts_124 rfl ?_
    refine rf_iadd C dX12_puts_126 ?_
    refine rf_iload_n C dX12_puts_127 rfl 3 rfl ?_
    refine rf_iadd C dX12_puts_128 ?_
    refine rf_lload C dX12_puts_129 4 rfl ?_
    refine rf_last C ar173 dX12_puts_131 (fun s10 => ?_)
    refine rf_iinc C (fun v11 => [(3, .int v11), (0, .ref ((gE Γ).2.1 148)), (1, .int a1), (2, .int a2), (4, .long u7)]) dX12_puts_132 3 rfl rfl (by decide) (fun _ => rfl) (fun v11 => ?_)
    refine rf_goto C 9 dX12_puts_135 (by decide) ?_
    exact rf_sub [1, 2, 3, 0] rfl (hrec5 v11 s10 trivial)
  refine rf_icmp_ge C 66 dX12_puts_23 (by decide) (fun _ => ?_) (fun _ => ?_)
  · refine rf_iload_n C dX12_puts_66 rfl 4 rfl ?_
    refine rf_istore C (fun v12 => [(6, .int v12), (4, .long u6), (0, .ref ((gE Γ).2.1 148)), (1, .int a1), (2, .int a2), (3, .int v3)]) dX12_puts_67 (by decide) (fun _ => rfl) (fun v12 => ?_)
    refine rf_sub [2, 3, 4, 5, 1, 0] rfl ?_
    refine rf_loo3 (fun _ _ _ => True) (fun _ _ s15 => s15) (fun u13 v14 s15 => [(0, .ref ((gE Γ).2.1 148)), (1, .int a1), (2, .int a2), (3, .int v3), (4, .long u13), (6, .int v14)]) (fun recrec16 hrec16 u13 v14 s15 _ => ?_) n u6 v12 s4 trivial
    refine rf_iload C dX12_puts_69 5 rfl ?_
    refine rf_aload_n C dX12_puts_71 rfl 0 rfl ?_
    refine rf_get C (v := .int (s15.1 148 24)) cfX12 flX12_251 (by decide) oX12 rfl dX12_puts_72 ?_
    refine rf_icmp_gt C 116 dX12_puts_75 (by decide) (fun _ => ?_) (fun _ => ?_)
    · exact rf_sub [0, 1, 2, 3, 4] rfl (hj9 u13 s15 trivial)
    refine rf_lload C dX12_puts_78 4 rfl ?_
    refine rf_aload_n C dX12_puts_80 rfl 0 rfl ?_
    refine rf_iload_n C dX12_puts_81 rfl 2 rfl ?_
    refine rf_bipush C (v := (nI 10)) dX12_puts_82 rfl ?_
    refine rf_isub C dX12_puts_84 ?_
    refine rf_iload_n C dX12_puts_85 rfl 3 rfl ?_
    refine rf_iload C dX12_puts_86 5 rfl ?_
    refine rf_callVl C (rmc := rmOf 0 0) [.int (a2 - (nI 10)), .int v3, .int v14] (by decide) (mX12_waysOf (gL Γ) (a2 - (nI 10)) v3 v14 s15) mfX12_waysOf mvX12_waysOf mlX12_280 rfl oX12 rfl rfl rfl (Nat.le_of_ble_eq_true rfl) ⟨Nat.le_of_ble_eq_true rfl, Nat.le_of_ble_eq_true rfl⟩ dX12_puts_88 (fun r18 s17 => ?_)
    refine rf_aload_n C dX12_puts_91 rfl 0 rfl ?_
    refine rf_get C (v := .ref ((gE Γ).2.1 173)) cfX12 flX12_88 (by decide) oX12 rfl dX12_puts_92 ?_
    refine rf_bipush C (v := (nI 9)) dX12_puts_95 rfl ?_
    refine rf_iload_n C dX12_puts_97 rfl 1 rfl ?_
    refine rf_imul C dX12_puts_98 ?_
    refine rf_iload C dX12_puts_99 5 rfl ?_
    refine rf_iadd C dX12_puts_101 ?_
    refine rf_lald C ar173 dX12_puts_102 (fun u19 => ?_)
    refine rf_lmul C dX12_puts_103 ?_
    refine rf_ladd C dX12_puts_104 ?_
    refine rf_callSl C (rmc := rmOf 0 0) [.long (u13 + (r18 * u19))] (by decide) (mX12_held (gL Γ) (u13 + (r18 * u19)) s17) mfX12_held msX12_held mlX12_276 rfl rfl rfl (Nat.le_of_ble_eq_true rfl) ⟨Nat.le_of_ble_eq_true rfl, Nat.le_of_ble_eq_true rfl⟩ dX12_puts_105 (fun r21 s20 => ?_)
    refine rf_lstore C (fun u22 => [(4, .long u22), (0, .ref ((gE Γ).2.1 148)), (1, .int a1), (2, .int a2), (3, .int v3), (6, .int v14)]) dX12_puts_108 (by decide) (fun _ => rfl) (fun u22 => ?_)
    refine rf_iinc C (fun v23 => [(6, .int v23), (4, .long u22), (0, .ref ((gE Γ).2.1 148)), (1, .int a1), (2, .int a2), (3, .int v3)]) dX12_puts_110 5 rfl rfl (by decide) (fun _ => rfl) (fun v23 => ?_)
    refine rf_goto C 69 dX12_puts_113 (by decide) ?_
    exact rf_sub [2, 3, 4, 5, 1, 0] rfl (hrec16 u22 v23 s20 trivial)
  refine rf_iload_n C dX12_puts_26 rfl 4 rfl ?_
  refine rf_aload_n C dX12_puts_27 rfl 1 rfl ?_
  refine rf_get C (v := .int (s4.1 148 24)) cfX12 flX12_251 (by decide) oX12 rfl dX12_puts_28 ?_
  refine rf_jn2 (fun _ _ => True) (fun _ s25 => s25) (fun u24 s25 => [(0, .ref ((gE Γ).2.1 148)), (1, .int a1), (2, .int a2), (3, .int v3)]) (fun u24 s25 => [.long u24]) 61 (fun u24 s25 _ => ?_) (fun j26 hj26 => ?_)
  · refine rf_lstore C (fun u27 => [(4, .long u27), (0, .ref ((gE Γ).2.1 148)), (1, .int a1), (2, .int a2), (3, .int v3)]) dX12_puts_61 (by decide) (fun _ => rfl) (fun u27 => ?_)
    refine rf_goto C 116 dX12_puts_63 (by decide) ?_
    exact rf_sub [1, 2, 3, 4, 0] rfl (hj9 u27 s25 trivial)
  refine rf_jn1 (fun _ => True) (fun  s28 => s28) (fun s28 => [(0, .ref ((gE Γ).2.1 148)), (1, .int a1), (2, .int a2), (3, .int v3)]) (fun s28 => []) 60 (fun s28 _ => ?_) (fun j29 hj29 => ?_)
  · refine rf_lconst C (v := (0 : Int64)) dX12_puts_60 rfl ?_
    exact rf_sub [0, 1, 2, 3] rfl (hj26 (0 : Int64) s28 trivial)
  refine rf_icmp_ge C 60 dX12_puts_31 (by decide) (fun _ => ?_) (fun _ => ?_)
  · exact rf_sub [1, 2, 3, 4] rfl (hj29 s4 trivial)
  refine rf_aload_n C dX12_puts_34 rfl 1 rfl ?_
  refine rf_get C (v := .ref ((gE Γ).2.1 166)) cfX12 flX12_66 (by decide) oX12 rfl dX12_puts_35 ?_
  refine rf_iload_n C dX12_puts_38 rfl 4 rfl ?_
  refine rf_iald C ar166 dX12_puts_39 (fun v30 => ?_)
  refine rf_iload_n C dX12_puts_40 rfl 3 rfl ?_
  refine rf_icmp_ne C 60 dX12_puts_41 (by decide) (fun _ => ?_) (fun _ => ?_)
  · exact rf_sub [1, 2, 3, 4] rfl (hj29 s4 trivial)
  refine rf_aload_n C dX12_puts_44 rfl 1 rfl ?_
  refine rf_get C (v := .ref ((gE Γ).2.1 173)) cfX12 flX12_88 (by decide) oX12 rfl dX12_puts_45 ?_
  refine rf_bipush C (v := (nI 9)) dX12_puts_48 rfl ?_
  refine rf_iload_n C dX12_puts_50 rfl 2 rfl ?_
  refine rf_imul C dX12_puts_51 ?_
  refine rf_iload_n C dX12_puts_52 rfl 4 rfl ?_
  refine rf_iadd C dX12_puts_53 ?_
  refine rf_iconst C (v := (nI 1)) dX12_puts_54 rfl ?_
  refine rf_iadd C dX12_puts_55 ?_
  refine rf_lald C ar173 dX12_puts_56 (fun u31 => ?_)
  refine rf_goto C 61 dX12_puts_57 (by decide) ?_
  exact rf_sub [1, 2, 3, 4] rfl (hj26 u31 s4 trivial)

def fX12_putsSide (n : Nat) (a1 : Int32) (a2 : Int32) (s0 : PH) : Option (Unit × PH) :=
(bd (fX12_size a2 s0) fun (r2 : Int32) (s1 : PH) =>
(lt (r2 - (nI 1)) fun (v3 : Int32) =>
(loo2 (fun (recrec6 : Int32 → PH → Option (Unit × PH)) (v4 : Int32) (s5 : PH) =>
(if v4 < 0 then
(some ((), s5))
else
(bd (fX12_size a2 s5) fun (r8 : Int32) (s7 : PH) =>
(bd (fX12_at a2 v4 s7) fun (r10 : Int32) (s9 : PH) =>
(bd (fX12_puts n (((a1 + r8) - (nI 1)) - v4) r10 s9) fun _ (s11 : PH) =>
(lt (v4 + (-1 : Int32)) fun (v12 : Int32) =>
(recrec6 v12 s11))))))) n v3 s1)))
set_option maxRecDepth 20000 in
set_option maxHeartbeats 2000000 in
theorem mX12_putsSide (l : Launch) (n : Nat) (a1 : Int32) (a2 : Int32) (s0 : PH) : Ctv 174 l yX12_putsSide cX12_putsSide 4 none (rmOf 2 49) (fun E => [.ref (E.2.1 148), .int a1, .int a2]) s0 (fX12_putsSide n a1 a2 s0) := by
  refine Ctv.of (by decide) rfl (lv := fun E => [(0, .ref (E.2.1 148)), (1, .int a1), (2, .int a2)]) (fun _ => Nat.le_of_ble_eq_true rfl) (fun _ => rfl) (fun Γ hΓ _ C => ?_)
  subst hΓ
  unfold fX12_putsSide
  refine rf_aload_n C dX12_putsSide_0 rfl 0 rfl ?_
  refine rf_iload_n C dX12_putsSide_1 rfl 2 rfl ?_
  refine rf_callVi C (rmc := rmOf 0 0) [.int a2] (by decide) (mX12_size (gL Γ) a2 s0) mfX12_size mvX12_size mlX12_117 rfl oX12 rfl rfl rfl (Nat.le_of_ble_eq_true rfl) ⟨Nat.le_of_ble_eq_true rfl, Nat.le_of_ble_eq_true rfl⟩ dX12_putsSide_2 (fun r2 s1 => ?_)
  refine rf_iconst C (v := (nI 1)) dX12_putsSide_5 rfl ?_
  refine rf_isub C dX12_putsSide_6 ?_
  refine rf_istore_n C (fun v3 => [(3, .int v3), (0, .ref ((gE Γ).2.1 148)), (1, .int a1), (2, .int a2)]) dX12_putsSide_7 rfl (by decide) (fun _ => rfl) (fun v3 => ?_)
  refine rf_sub [1, 2, 3, 0] rfl ?_
  refine rf_loo2 (fun _ _ => True) (fun _ s5 => s5) (fun v4 s5 => [(0, .ref ((gE Γ).2.1 148)), (1, .int a1), (2, .int a2), (3, .int v4)]) (fun recrec6 hrec6 v4 s5 _ => ?_) n v3 s1 trivial
  refine rf_iload_n C dX12_putsSide_8 rfl 3 rfl ?_
  refine rf_if_lt C 39 dX12_putsSide_9 (by decide) (fun _ => ?_) (fun _ => ?_)
  · exact rf_vret C dX12_putsSide_39
  refine rf_aload_n C dX12_putsSide_12 rfl 0 rfl ?_
  refine rf_iload_n C dX12_putsSide_13 rfl 1 rfl ?_
  refine rf_aload_n C dX12_putsSide_14 rfl 0 rfl ?_
  refine rf_iload_n C dX12_putsSide_15 rfl 2 rfl ?_
  refine rf_callVi C (rmc := rmOf 0 0) [.int a2] (by decide) (mX12_size (gL Γ) a2 s5) mfX12_size mvX12_size mlX12_117 rfl oX12 rfl rfl rfl (Nat.le_of_ble_eq_true rfl) ⟨Nat.le_of_ble_eq_true rfl, Nat.le_of_ble_eq_true rfl⟩ dX12_putsSide_16 (fun r8 s7 => ?_)
  refine rf_iadd C dX12_putsSide_19 ?_
  refine rf_iconst C (v := (nI 1)) dX12_putsSide_20 rfl ?_
  refine rf_isub C dX12_putsSide_21 ?_
  refine rf_iload_n C dX12_putsSide_22 rfl 3 rfl ?_
  refine rf_isub C dX12_putsSide_23 ?_
  refine rf_aload_n C dX12_putsSide_24 rfl 0 rfl ?_
  refine rf_iload_n C dX12_putsSide_25 rfl 2 rfl ?_
  refine rf_iload_n C dX12_putsSide_26 rfl 3 rfl ?_
  refine rf_callVi C (rmc := rmOf 0 0) [.int a2, .int v4] (by decide) (mX12_at (gL Γ) a2 v4 s7) mfX12_at mvX12_at mlX12_109 rfl oX12 rfl rfl rfl (Nat.le_of_ble_eq_true rfl) ⟨Nat.le_of_ble_eq_true rfl, Nat.le_of_ble_eq_true rfl⟩ dX12_putsSide_27 (fun r10 s9 => ?_)
  refine rf_callVv C (rmc := rmOf 1 23) [.int (((a1 + r8) - (nI 1)) - v4), .int r10] (by decide) (mX12_puts (gL Γ) n (((a1 + r8) - (nI 1)) - v4) r10 s9) mfX12_puts mvX12_puts mlX12_293 rfl oX12 rfl rfl rfl (Nat.le_of_ble_eq_true rfl) ⟨Nat.le_of_ble_eq_true rfl, Nat.le_of_ble_eq_true rfl⟩ dX12_putsSide_30 (fun s11 => ?_)
  refine rf_iinc C (fun v12 => [(3, .int v12), (0, .ref ((gE Γ).2.1 148)), (1, .int a1), (2, .int a2)]) dX12_putsSide_33 3 rfl rfl (by decide) (fun _ => rfl) (fun v12 => ?_)
  refine rf_goto C 8 dX12_putsSide_36 (by decide) ?_
  exact rf_sub [1, 2, 3, 0] rfl (hrec6 v12 s11 trivial)

def fX12_stepOf (n : Nat) (a1 : Int64) (a2 : Int32) (s0 : PH) : Option (Int32 × PH) :=
(lt a1 fun (u1 : Int64) =>
(lt (nI 0) fun (v2 : Int32) =>
(lt (nI 1) fun (v3 : Int32) =>
(lt (nI 0) fun (v4 : Int32) =>
(lt (nI 0) fun (v5 : Int32) =>
(loo2 (fun (recrec8 : Int32 → PH → Option (Int32 × PH)) (v6 : Int32) (s7 : PH) =>
(if (s7.1 148 24) < v6 then
(bd (fX12_start s7) fun (r10 : Int32) (s9 : PH) =>
(bd (fX12_puts n (nI 0) ((nI 10) + r10) s9) fun _ (s11 : PH) =>
(loo5 (fun (recrec17 : Int64 → Int32 → Int32 → Int32 → PH → Option (Int32 × PH)) (u12 : Int64) (v13 : Int32) (v14 : Int32) (v15 : Int32) (s16 : PH) =>
(if v14 ≤ 0 then
(some ((-9 : Int32), s16))
else
(lt (v14 + (-1 : Int32)) fun (v18 : Int32) =>
(ra 900 v18 (s16.1 172) fun (v19 : Int32) =>
(if (nI 10) ≤ v19 then
(ra 900 v18 (s16.1 172) fun (v20 : Int32) =>
(lt (v20 - (nI 10)) fun (v21 : Int32) =>
(lt (-9 : Int32) fun (v22 : Int32) =>
(lt (nI 0) fun (v23 : Int32) =>
(loo4 (fun (recrec28 : Int64 → Int32 → Int32 → PH → Option (Int32 × PH)) (u24 : Int64) (v25 : Int32) (v26 : Int32) (s27 : PH) =>
(bd (fX12_many s27) fun (r30 : Int32) (s29 : PH) =>
(jn (fun (s31 : PH) =>
(if v15 = a2 then
(some (v25, s31))
else
(lt (v15 + (nI 1)) fun (v33 : Int32) =>
(bd (fX12_size v25 s31) fun (r35 : Int32) (s34 : PH) =>
(lt (v18 + r35) fun (v36 : Int32) =>
(recrec17 u24 v13 v36 v33 s34)))))) (fun (j32 : PH → Option (Int32 × PH)) =>
(if r30 ≤ v26 then
(j32 s29)
else
(if v25 = (-9 : Int32) then
(bd (fX12_left v26 s29) fun (r38 : Int32) (s37 : PH) =>
(jn (fun (u39 : Int64) (v40 : Int32) (s41 : PH) =>
(lt (v26 + (nI 1)) fun (v43 : Int32) =>
(recrec28 u39 v40 v43 s41))) (fun (j42 : Int64 → Int32 → PH → Option (Int32 × PH)) =>
(if r38 = v21 then
(bd (fX12_putsSide n v18 v26 s37) fun _ (s44 : PH) =>
(bd (fX12_size v26 s44) fun (r46 : Int32) (s45 : PH) =>
(ra 8109 (((nI 9) * (v18 + r46)) + v13) (s45.2.1 173) fun (u47 : Int64) =>
(lt u47 fun (u48 : Int64) =>
(jn (fun (v49 : Int32) (s50 : PH) =>
(lt v49 fun (v52 : Int32) =>
(jn (fun (u53 : Int64) (s54 : PH) =>
(lt (u24 - u53) fun (u56 : Int64) =>
(j42 u56 v52 s54))) (fun (j55 : Int64 → PH → Option (Int32 × PH)) =>
(if u48 ≤ u24 then
(j55 u48 s50)
else
(j55 (0 : Int64) s50)))))) (fun (j51 : Int32 → PH → Option (Int32 × PH)) =>
(if u48 ≤ u24 then
(j51 v25 s45)
else
(j51 v26 s45))))))))
else
(j42 u24 v25 s37)))))
else
(j32 s29))))))) n u12 v22 v23 s16)))))
else
(lt (v13 + (nI 1)) fun (v57 : Int32) =>
(recrec17 u12 v57 v18 v15 s16))))))) n u1 v2 v3 v4 s11)))
else
(jn (fun (u58 : Int64) (s59 : PH) =>
(wa 8109 v6 (lt (sl s59 173 v6.toNatClampNeg u58) fun (s61 : PH) =>
(lt (v6 + (nI 1)) fun (v62 : Int32) =>
(recrec8 v62 s61))))) (fun (j60 : Int64 → PH → Option (Int32 × PH)) =>
(if v6 = (s7.1 148 24) then
(j60 (1 : Int64) s7)
else
(j60 (0 : Int64) s7)))))) n v5 s0))))))
set_option maxRecDepth 20000 in
set_option maxHeartbeats 2000000 in
theorem mX12_stepOf (l : Launch) (n : Nat) (a1 : Int64) (a2 : Int32) (s0 : PH) : Cti 174 l yX12_stepOf cX12_stepOf 14 (some .int) (rmOf 3 72) (fun E => [.ref (E.2.1 148), .long a1, .int a2]) s0 (fX12_stepOf n a1 a2 s0) := by
  refine Cti.of (by decide) rfl (lv := fun E => [(0, .ref (E.2.1 148)), (1, .long a1), (3, .int a2)]) (fun _ => Nat.le_of_ble_eq_true rfl) (fun _ => rfl) (fun Γ hΓ _ C => ?_)
  subst hΓ
  unfold fX12_stepOf
  refine rf_lload_n C dX12_stepOf_0 rfl 1 rfl ?_
  refine rf_lstore C (fun u1 => [(4, .long u1), (0, .ref ((gE Γ).2.1 148)), (1, .long a1), (3, .int a2)]) dX12_stepOf_1 (by decide) (fun _ => rfl) (fun u1 => ?_)
  refine rf_iconst C (v := (nI 0)) dX12_stepOf_3 rfl ?_
  refine rf_istore C (fun v2 => [(6, .int v2), (4, .long u1), (0, .ref ((gE Γ).2.1 148)), (1, .long a1), (3, .int a2)]) dX12_stepOf_4 (by decide) (fun _ => rfl) (fun v2 => ?_)
  refine rf_iconst C (v := (nI 1)) dX12_stepOf_6 rfl ?_
  refine rf_istore C (fun v3 => [(7, .int v3), (6, .int v2), (4, .long u1), (0, .ref ((gE Γ).2.1 148)), (1, .long a1), (3, .int a2)]) dX12_stepOf_7 (by decide) (fun _ => rfl) (fun v3 => ?_)
  refine rf_iconst C (v := (nI 0)) dX12_stepOf_9 rfl ?_
  refine rf_istore C (fun v4 => [(8, .int v4), (7, .int v3), (6, .int v2), (4, .long u1), (0, .ref ((gE Γ).2.1 148)), (1, .long a1), (3, .int a2)]) dX12_stepOf_10 (by decide) (fun _ => rfl) (fun v4 => ?_)
  refine rf_iconst C (v := (nI 0)) dX12_stepOf_12 rfl ?_
  refine rf_istore C (fun v5 => [(9, .int v5), (8, .int v4), (7, .int v3), (6, .int v2), (4, .long u1), (0, .ref ((gE Γ).2.1 148)), (1, .long a1), (3, .int a2)]) dX12_stepOf_13 (by decide) (fun _ => rfl) (fun v5 => ?_)
  refine rf_sub [5, 7, 4, 3, 2, 1, 0] rfl ?_
  refine rf_loo2 (fun _ _ => True) (fun _ s7 => s7) (fun v6 s7 => [(0, .ref ((gE Γ).2.1 148)), (3, .int a2), (4, .long u1), (6, .int v2), (7, .int v3), (8, .int v4), (9, .int v6)]) (fun recrec8 hrec8 v6 s7 _ => ?_) n v5 s0 trivial
  refine rf_iload C dX12_stepOf_15 6 rfl ?_
  refine rf_aload_n C dX12_stepOf_17 rfl 0 rfl ?_
  refine rf_get C (v := .int (s7.1 148 24)) cfX12 flX12_251 (by decide) oX12 rfl dX12_stepOf_18 ?_
  refine rf_icmp_gt C 51 dX12_stepOf_21 (by decide) (fun _ => ?_) (fun _ => ?_)
  · refine rf_aload_n C dX12_stepOf_51 rfl 0 rfl ?_
    refine rf_iconst C (v := (nI 0)) dX12_stepOf_52 rfl ?_
    refine rf_bipush C (v := (nI 10)) dX12_stepOf_53 rfl ?_
    refine rf_aload_n C dX12_stepOf_55 rfl 0 rfl ?_
    refine rf_callVi C (rmc := rmOf 0 0) [] (by decide) (mX12_start (gL Γ) s7) mfX12_start mvX12_start mlX12_124 rfl oX12 rfl rfl rfl (Nat.le_of_ble_eq_true rfl) ⟨Nat.le_of_ble_eq_true rfl, Nat.le_of_ble_eq_true rfl⟩ dX12_stepOf_56 (fun r10 s9 => ?_)
    refine rf_iadd C dX12_stepOf_59 ?_
    refine rf_callVv C (rmc := rmOf 1 23) [.int (nI 0), .int ((nI 10) + r10)] (by decide) (mX12_puts (gL Γ) n (nI 0) ((nI 10) + r10) s9) mfX12_puts mvX12_puts mlX12_293 rfl oX12 rfl rfl rfl (Nat.le_of_ble_eq_true rfl) ⟨Nat.le_of_ble_eq_true rfl, Nat.le_of_ble_eq_true rfl⟩ dX12_stepOf_60 (fun s11 => ?_)
    refine rf_sub [0, 1, 2, 3, 4, 5] rfl ?_
    refine rf_loo5 (fun _ _ _ _ _ => True) (fun _ _ _ _ s16 => s16) (fun u12 v13 v14 v15 s16 => [(0, .ref ((gE Γ).2.1 148)), (3, .int a2), (4, .long u12), (6, .int v13), (7, .int v14), (8, .int v15)]) (fun recrec17 hrec17 u12 v13 v14 v15 s16 _ => ?_) n u1 v2 v3 v4 s11 trivial
    refine rf_iload C dX12_stepOf_63 4 rfl ?_
    refine rf_if_le C 233 dX12_stepOf_65 (by decide) (fun _ => ?_) (fun _ => ?_)
    · refine rf_bipush C (v := (-9 : Int32)) dX12_stepOf_233 rfl ?_
      exact rf_iret C dX12_stepOf_235
    refine rf_iinc C (fun v18 => [(7, .int v18), (0, .ref ((gE Γ).2.1 148)), (3, .int a2), (4, .long u12), (6, .int v13), (8, .int v15)]) dX12_stepOf_68 4 rfl rfl (by decide) (fun _ => rfl) (fun v18 => ?_)
    refine rf_aload_n C dX12_stepOf_71 rfl 1 rfl ?_
    refine rf_get C (v := .ref ((gE Γ).2.1 172)) cfX12 flX12_85 (by decide) oX12 rfl dX12_stepOf_72 ?_
    refine rf_iload C dX12_stepOf_75 0 rfl ?_
    refine rf_iald C ar172 dX12_stepOf_77 (fun v19 => ?_)
    refine rf_bipush C (v := (nI 10)) dX12_stepOf_78 rfl ?_
    refine rf_icmp_ge C 89 dX12_stepOf_80 (by decide) (fun _ => ?_) (fun _ => ?_)
    · refine rf_aload_n C dX12_stepOf_89 rfl 1 rfl ?_
      refine rf_get C (v := .ref ((gE Γ).2.1 172)) cfX12 flX12_85 (by decide) oX12 rfl dX12_stepOf_90 ?_
      refine rf_iload C dX12_stepOf_93 0 rfl ?_
      refine rf_iald C ar172 dX12_stepOf_95 (fun v20 => ?_)
      refine rf_bipush C (v := (nI 10)) dX12_stepOf_96 rfl ?_
      refine rf_isub C dX12_stepOf_98 ?_
      refine rf_istore C (fun v21 => [(9, .int v21), (7, .int v18), (0, .ref ((gE Γ).2.1 148)), (3, .int a2), (4, .long u12), (6, .int v13), (8, .int v15)]) dX12_stepOf_99 (by decide) (fun _ => rfl) (fun v21 => ?_)
      refine rf_bipush C (v := (-9 : Int32)) dX12_stepOf_101 rfl ?_
      refine rf_istore C (fun v22 => [(10, .int v22), (9, .int v21), (7, .int v18), (0, .ref ((gE Γ).2.1 148)), (3, .int a2), (4, .long u12), (6, .int v13), (8, .int v15)]) dX12_stepOf_103 (by decide) (fun _ => rfl) (fun v22 => ?_)
      refine rf_iconst C (v := (nI 0)) dX12_stepOf_105 rfl ?_
      refine rf_istore C (fun v23 => [(11, .int v23), (10, .int v22), (9, .int v21), (7, .int v18), (0, .ref ((gE Γ).2.1 148)), (3, .int a2), (4, .long u12), (6, .int v13), (8, .int v15)]) dX12_stepOf_106 (by decide) (fun _ => rfl) (fun v23 => ?_)
      refine rf_sub [4, 5, 6, 7, 3, 8, 2, 1, 0] rfl ?_
      refine rf_loo4 (fun _ _ _ _ => True) (fun _ _ _ s27 => s27) (fun u24 v25 v26 s27 => [(0, .ref ((gE Γ).2.1 148)), (3, .int a2), (4, .long u24), (6, .int v13), (7, .int v18), (8, .int v15), (9, .int v21), (10, .int v25), (11, .int v26)]) (fun recrec28 hrec28 u24 v25 v26 s27 _ => ?_) n u12 v22 v23 s16 trivial
      refine rf_iload C dX12_stepOf_108 8 rfl ?_
      refine rf_aload_n C dX12_stepOf_110 rfl 0 rfl ?_
      refine rf_callVi C (rmc := rmOf 0 0) [] (by decide) (mX12_many (gL Γ) s27) mfX12_many mvX12_many mlX12_94 rfl oX12 rfl rfl rfl (Nat.le_of_ble_eq_true rfl) ⟨Nat.le_of_ble_eq_true rfl, Nat.le_of_ble_eq_true rfl⟩ dX12_stepOf_111 (fun r30 s29 => ?_)
      refine rf_jn1 (fun _ => True) (fun  s31 => s31) (fun s31 => [(0, .ref ((gE Γ).2.1 148)), (3, .int a2), (4, .long u24), (6, .int v13), (7, .int v18), (8, .int v15), (10, .int v25)]) (fun s31 => []) 207 (fun s31 _ => ?_) (fun j32 hj32 => ?_)
      · refine rf_iload C dX12_stepOf_207 5 rfl ?_
        refine rf_iload_n C dX12_stepOf_209 rfl 1 rfl ?_
        refine rf_icmp_ne C 216 dX12_stepOf_210 (by decide) (fun _ => ?_) (fun _ => ?_)
        · refine rf_iinc C (fun v33 => [(8, .int v33), (0, .ref ((gE Γ).2.1 148)), (3, .int a2), (4, .long u24), (6, .int v13), (7, .int v18), (10, .int v25)]) dX12_stepOf_216 5 rfl rfl (by decide) (fun _ => rfl) (fun v33 => ?_)
          refine rf_iload C dX12_stepOf_219 5 rfl ?_
          refine rf_aload_n C dX12_stepOf_221 rfl 1 rfl ?_
          refine rf_iload C dX12_stepOf_222 6 rfl ?_
          refine rf_callVi C (rmc := rmOf 0 0) [.int v25] (by decide) (mX12_size (gL Γ) v25 s31) mfX12_size mvX12_size mlX12_117 rfl oX12 rfl rfl rfl (Nat.le_of_ble_eq_true rfl) ⟨Nat.le_of_ble_eq_true rfl, Nat.le_of_ble_eq_true rfl⟩ dX12_stepOf_224 (fun r35 s34 => ?_)
          refine rf_iadd C dX12_stepOf_227 ?_
          refine rf_istore C (fun v36 => [(7, .int v36), (8, .int v33), (0, .ref ((gE Γ).2.1 148)), (3, .int a2), (4, .long u24), (6, .int v13), (10, .int v25)]) dX12_stepOf_228 (by decide) (fun _ => rfl) (fun v36 => ?_)
          refine rf_goto C 63 dX12_stepOf_230 (by decide) ?_
          exact rf_sub [2, 3, 4, 5, 0, 1] rfl (hrec17 u24 v13 v36 v33 s34 trivial)
        refine rf_iload C dX12_stepOf_213 6 rfl ?_
        exact rf_iret C dX12_stepOf_215
      refine rf_icmp_ge C 207 dX12_stepOf_114 (by decide) (fun _ => ?_) (fun _ => ?_)
      · exact rf_sub [0, 1, 2, 3, 4, 5, 7] rfl (hj32 s29 trivial)
      refine rf_iload C dX12_stepOf_117 7 rfl ?_
      refine rf_bipush C (v := (-9 : Int32)) dX12_stepOf_119 rfl ?_
      refine rf_icmp_ne C 207 dX12_stepOf_121 (by decide) (fun _ => ?_) (fun _ => ?_)
      · exact rf_sub [0, 1, 2, 3, 4, 5, 7] rfl (hj32 s29 trivial)
      refine rf_aload_n C dX12_stepOf_124 rfl 0 rfl ?_
      refine rf_iload C dX12_stepOf_125 8 rfl ?_
      refine rf_callVi C (rmc := rmOf 0 0) [.int v26] (by decide) (mX12_left (gL Γ) v26 s29) mfX12_left mvX12_left mlX12_102 rfl oX12 rfl rfl rfl (Nat.le_of_ble_eq_true rfl) ⟨Nat.le_of_ble_eq_true rfl, Nat.le_of_ble_eq_true rfl⟩ dX12_stepOf_127 (fun r38 s37 => ?_)
      refine rf_iload C dX12_stepOf_130 6 rfl ?_
      refine rf_jn3 (fun _ _ _ => True) (fun _ _ s41 => s41) (fun u39 v40 s41 => [(0, .ref ((gE Γ).2.1 148)), (3, .int a2), (4, .long u39), (6, .int v13), (7, .int v18), (8, .int v15), (9, .int v21), (10, .int v40), (11, .int v26)]) (fun u39 v40 s41 => []) 201 (fun u39 v40 s41 _ => ?_) (fun j42 hj42 => ?_)
      · refine rf_iinc C (fun v43 => [(11, .int v43), (0, .ref ((gE Γ).2.1 148)), (3, .int a2), (4, .long u39), (6, .int v13), (7, .int v18), (8, .int v15), (9, .int v21), (10, .int v40)]) dX12_stepOf_201 8 rfl rfl (by decide) (fun _ => rfl) (fun v43 => ?_)
        refine rf_goto C 108 dX12_stepOf_204 (by decide) ?_
        exact rf_sub [1, 2, 3, 4, 5, 6, 7, 8, 0] rfl (hrec28 u39 v40 v43 s41 trivial)
      refine rf_icmp_ne C 201 dX12_stepOf_132 (by decide) (fun _ => ?_) (fun _ => ?_)
      · exact rf_sub [0, 1, 2, 3, 4, 5, 6, 7, 8] rfl (hj42 u24 v25 s37 trivial)
      refine rf_aload_n C dX12_stepOf_135 rfl 0 rfl ?_
      refine rf_iload C dX12_stepOf_136 4 rfl ?_
      refine rf_iload C dX12_stepOf_138 8 rfl ?_
      refine rf_callVv C (rmc := rmOf 2 49) [.int v18, .int v26] (by decide) (mX12_putsSide (gL Γ) n v18 v26 s37) mfX12_putsSide mvX12_putsSide mlX12_296 rfl oX12 rfl rfl rfl (Nat.le_of_ble_eq_true rfl) ⟨Nat.le_of_ble_eq_true rfl, Nat.le_of_ble_eq_true rfl⟩ dX12_stepOf_140 (fun s44 => ?_)
      refine rf_aload_n C dX12_stepOf_143 rfl 0 rfl ?_
      refine rf_get C (v := .ref ((gE Γ).2.1 173)) cfX12 flX12_88 (by decide) oX12 rfl dX12_stepOf_144 ?_
      refine rf_bipush C (v := (nI 9)) dX12_stepOf_147 rfl ?_
      refine rf_iload C dX12_stepOf_149 4 rfl ?_
      refine rf_aload_n C dX12_stepOf_151 rfl 0 rfl ?_
      refine rf_iload C dX12_stepOf_152 8 rfl ?_
      refine rf_callVi C (rmc := rmOf 0 0) [.int v26] (by decide) (mX12_size (gL Γ) v26 s44) mfX12_size mvX12_size mlX12_117 rfl oX12 rfl rfl rfl (Nat.le_of_ble_eq_true rfl) ⟨Nat.le_of_ble_eq_true rfl, Nat.le_of_ble_eq_true rfl⟩ dX12_stepOf_154 (fun r46 s45 => ?_)
      refine rf_iadd C dX12_stepOf_157 ?_
      refine rf_imul C dX12_stepOf_158 ?_
      refine rf_iload C dX12_stepOf_159 3 rfl ?_
      refine rf_iadd C dX12_stepOf_161 ?_
      refine rf_lald C ar173 dX12_stepOf_162 (fun u47 => ?_)
      refine rf_lstore C (fun u48 => [(12, .long u48), (0, .ref ((gE Γ).2.1 148)), (3, .int a2), (4, .long u24), (6, .int v13), (7, .int v18), (8, .int v15), (9, .int v21), (10, .int v25), (11, .int v26)]) dX12_stepOf_163 (by decide) (fun _ => rfl) (fun u48 => ?_)
      refine rf_lload C dX12_stepOf_165 3 rfl ?_
      refine rf_lload C dX12_stepOf_167 0 rfl ?_
      refine rf_jn2 (fun _ _ => True) (fun _ s50 => s50) (fun v49 s50 => [(0, .ref ((gE Γ).2.1 148)), (3, .int a2), (4, .long u24), (6, .int v13), (7, .int v18), (8, .int v15), (9, .int v21), (11, .int v26), (12, .long u48)]) (fun v49 s50 => [.int v49]) 180 (fun v49 s50 _ => ?_) (fun j51 hj51 => ?_)
      · refine rf_istore C (fun v52 => [(10, .int v52), (0, .ref ((gE Γ).2.1 148)), (3, .int a2), (4, .long u24), (6, .int v13), (7, .int v18), (8, .int v15), (9, .int v21), (11, .int v26), (12, .long u48)]) dX12_stepOf_180 (by decide) (fun _ => rfl) (fun v52 => ?_)
        refine rf_lload C dX12_stepOf_182 3 rfl ?_
        refine rf_lload C dX12_stepOf_184 3 rfl ?_
        refine rf_lload C dX12_stepOf_186 9 rfl ?_
        refine rf_jn2 (fun _ _ => True) (fun _ s54 => s54) (fun u53 s54 => [(0, .ref ((gE Γ).2.1 148)), (3, .int a2), (6, .int v13), (7, .int v18), (8, .int v15), (9, .int v21), (10, .int v52), (11, .int v26)]) (fun u53 s54 => [.long u53, .long u24]) 198 (fun u53 s54 _ => ?_) (fun j55 hj55 => ?_)
        · refine rf_lsub C dX12_stepOf_198 ?_
          refine rf_lstore C (fun u56 => [(4, .long u56), (0, .ref ((gE Γ).2.1 148)), (3, .int a2), (6, .int v13), (7, .int v18), (8, .int v15), (9, .int v21), (10, .int v52), (11, .int v26)]) dX12_stepOf_199 (by decide) (fun _ => rfl) (fun u56 => ?_)
          exact rf_sub [1, 2, 0, 3, 4, 5, 6, 7, 8] rfl (hj42 u56 v52 s54 trivial)
        refine rf_lcmp_ge C 196 dX12_stepOf_188 dX12_stepOf_189 (by decide) (fun _ => ?_) (fun _ => ?_)
        · refine rf_lload C dX12_stepOf_196 9 rfl ?_
          exact rf_sub [1, 2, 4, 5, 6, 7, 0, 8] rfl (hj55 u48 s50 trivial)
        refine rf_lconst C (v := (0 : Int64)) dX12_stepOf_192 rfl ?_
        refine rf_goto C 198 dX12_stepOf_193 (by decide) ?_
        exact rf_sub [1, 2, 4, 5, 6, 7, 0, 8] rfl (hj55 (0 : Int64) s50 trivial)
      refine rf_lcmp_ge C 178 dX12_stepOf_169 dX12_stepOf_170 (by decide) (fun _ => ?_) (fun _ => ?_)
      · refine rf_iload C dX12_stepOf_178 8 rfl ?_
        exact rf_sub [1, 2, 3, 4, 5, 6, 7, 9, 0] rfl (hj51 v25 s45 trivial)
      refine rf_iload C dX12_stepOf_173 9 rfl ?_
      refine rf_goto C 180 dX12_stepOf_175 (by decide) ?_
      exact rf_sub [1, 2, 3, 4, 5, 6, 7, 9, 0] rfl (hj51 v26 s45 trivial)
    refine rf_iinc C (fun v57 => [(6, .int v57), (7, .int v18), (0, .ref ((gE Γ).2.1 148)), (3, .int a2), (4, .long u12), (8, .int v15)]) dX12_stepOf_83 4 rfl rfl (by decide) (fun _ => rfl) (fun v57 => ?_)
    refine rf_goto C 63 dX12_stepOf_86 (by decide) ?_
    exact rf_sub [2, 3, 4, 0, 1, 5] rfl (hrec17 u12 v57 v18 v15 s16 trivial)
  refine rf_aload_n C dX12_stepOf_24 rfl 0 rfl ?_
  refine rf_get C (v := .ref ((gE Γ).2.1 173)) cfX12 flX12_88 (by decide) oX12 rfl dX12_stepOf_25 ?_
  refine rf_iload C dX12_stepOf_28 6 rfl ?_
  refine rf_iload C dX12_stepOf_30 6 rfl ?_
  refine rf_aload_n C dX12_stepOf_32 rfl 0 rfl ?_
  refine rf_get C (v := .int (s7.1 148 24)) cfX12 flX12_251 (by decide) oX12 rfl dX12_stepOf_33 ?_
  refine rf_jn2 (fun _ _ => True) (fun _ s59 => s59) (fun u58 s59 => [(0, .ref ((gE Γ).2.1 148)), (3, .int a2), (4, .long u1), (6, .int v2), (7, .int v3), (8, .int v4), (9, .int v6)]) (fun u58 s59 => [.long u58, .int v6, .ref ((gE Γ).2.1 173)]) 44 (fun u58 s59 _ => ?_) (fun j60 hj60 => ?_)
  · refine rf_last C ar173 dX12_stepOf_44 (fun s61 => ?_)
    refine rf_iinc C (fun v62 => [(9, .int v62), (0, .ref ((gE Γ).2.1 148)), (3, .int a2), (4, .long u1), (6, .int v2), (7, .int v3), (8, .int v4)]) dX12_stepOf_45 6 rfl rfl (by decide) (fun _ => rfl) (fun v62 => ?_)
    refine rf_goto C 15 dX12_stepOf_48 (by decide) ?_
    exact rf_sub [1, 2, 3, 4, 5, 6, 0] rfl (hrec8 v62 s61 trivial)
  refine rf_icmp_ne C 43 dX12_stepOf_36 (by decide) (fun _ => ?_) (fun _ => ?_)
  · refine rf_lconst C (v := (0 : Int64)) dX12_stepOf_43 rfl ?_
    exact rf_sub [0, 1, 2, 3, 4, 5, 6] rfl (hj60 (0 : Int64) s7 trivial)
  refine rf_lconst C (v := (1 : Int64)) dX12_stepOf_39 rfl ?_
  refine rf_goto C 44 dX12_stepOf_40 (by decide) ?_
  exact rf_sub [0, 1, 2, 3, 4, 5, 6] rfl (hj60 (1 : Int64) s7 trivial)

def fX12_step (n : Nat) (a1 : Int32) (a2 : Int32) (s0 : PH) : Option (Int32 × PH) :=
(bd (fX12_in a1 (nI 0) (nI 1) s0) fun (r2 : Int32) (s1 : PH) =>
(if r2 = 0 then
(some ((-1 : Int32), s1))
else
(bd (fX12_in a2 (nI 0) (nI 199) s1) fun (r4 : Int32) (s3 : PH) =>
(if r4 = 0 then
(some ((-1 : Int32), s3))
else
(bd (fX12_derivations n s3) fun (r6 : Int32) (s5 : PH) =>
(lt r6 fun (v7 : Int32) =>
(if 0 ≤ v7 then
(if v7 ≤ a1 then
(some ((-9 : Int32), s5))
else
(bd (fX12_stepOf n a1.toInt64 a2 s5) fun (r9 : Int32) (s8 : PH) =>
(some (r9, s8))))
else
(some (v7, s5)))))))))
set_option maxRecDepth 20000 in
set_option maxHeartbeats 2000000 in
theorem mX12_step (l : Launch) (n : Nat) (a1 : Int32) (a2 : Int32) (s0 : PH) : Cti 174 l yX12_step cX12_step 4 (some .int) (rmOf 5 116) (fun E => [.ref (E.2.1 148), .int a1, .int a2]) s0 (fX12_step n a1 a2 s0) := by
  refine Cti.of (by decide) rfl (lv := fun E => [(0, .ref (E.2.1 148)), (1, .int a1), (2, .int a2)]) (fun _ => Nat.le_of_ble_eq_true rfl) (fun _ => rfl) (fun Γ hΓ _ C => ?_)
  subst hΓ
  unfold fX12_step
  refine rf_iload_n C dX12_step_0 rfl 1 rfl ?_
  refine rf_iconst C (v := (nI 0)) dX12_step_1 rfl ?_
  refine rf_iconst C (v := (nI 1)) dX12_step_2 rfl ?_
  refine rf_callSi C (rmc := rmOf 0 0) [.int a1, .int (nI 0), .int (nI 1)] (by decide) (mX12_in (gL Γ) a1 (nI 0) (nI 1) s0) mfX12_in msX12_in mlX12_98 rfl rfl rfl (Nat.le_of_ble_eq_true rfl) ⟨Nat.le_of_ble_eq_true rfl, Nat.le_of_ble_eq_true rfl⟩ dX12_step_3 (fun r2 s1 => ?_)
  refine rf_if_eq C 20 dX12_step_6 (by decide) (fun _ => ?_) (fun _ => ?_)
  · refine rf_iconst C (v := (-1 : Int32)) dX12_step_20 rfl ?_
    exact rf_iret C dX12_step_21
  refine rf_iload_n C dX12_step_9 rfl 2 rfl ?_
  refine rf_iconst C (v := (nI 0)) dX12_step_10 rfl ?_
  refine rf_sipush C (v := (nI 199)) dX12_step_11 rfl ?_
  refine rf_callSi C (rmc := rmOf 0 0) [.int a2, .int (nI 0), .int (nI 199)] (by decide) (mX12_in (gL Γ) a2 (nI 0) (nI 199) s1) mfX12_in msX12_in mlX12_98 rfl rfl rfl (Nat.le_of_ble_eq_true rfl) ⟨Nat.le_of_ble_eq_true rfl, Nat.le_of_ble_eq_true rfl⟩ dX12_step_14 (fun r4 s3 => ?_)
  refine rf_if_ne C 22 dX12_step_17 (by decide) (fun _ => ?_) (fun _ => ?_)
  · refine rf_aload_n C dX12_step_22 rfl 0 rfl ?_
    refine rf_callVi C (rmc := rmOf 4 95) [] (by decide) (mX12_derivations (gL Γ) n s3) mfX12_derivations mvX12_derivations mlX12_299 rfl oX12 rfl rfl rfl (Nat.le_of_ble_eq_true rfl) ⟨Nat.le_of_ble_eq_true rfl, Nat.le_of_ble_eq_true rfl⟩ dX12_step_23 (fun r6 s5 => ?_)
    refine rf_istore_n C (fun v7 => [(3, .int v7), (0, .ref ((gE Γ).2.1 148)), (1, .int a1), (2, .int a2)]) dX12_step_26 rfl (by decide) (fun _ => rfl) (fun v7 => ?_)
    refine rf_iload_n C dX12_step_27 rfl 0 rfl ?_
    refine rf_if_ge C 35 dX12_step_28 (by decide) (fun _ => ?_) (fun _ => ?_)
    · refine rf_iload_n C dX12_step_35 rfl 2 rfl ?_
      refine rf_iload_n C dX12_step_36 rfl 0 rfl ?_
      refine rf_icmp_ge C 50 dX12_step_37 (by decide) (fun _ => ?_) (fun _ => ?_)
      · refine rf_bipush C (v := (-9 : Int32)) dX12_step_50 rfl ?_
        exact rf_iret C dX12_step_52
      refine rf_aload_n C dX12_step_40 rfl 1 rfl ?_
      refine rf_iload_n C dX12_step_41 rfl 2 rfl ?_
      refine rf_i2l C dX12_step_42 ?_
      refine rf_iload_n C dX12_step_43 rfl 3 rfl ?_
      refine rf_callVi C (rmc := rmOf 3 72) [.long a1.toInt64, .int a2] (by decide) (mX12_stepOf (gL Γ) n a1.toInt64 a2 s5) mfX12_stepOf mvX12_stepOf mlX12_302 rfl oX12 rfl rfl rfl (Nat.le_of_ble_eq_true rfl) ⟨Nat.le_of_ble_eq_true rfl, Nat.le_of_ble_eq_true rfl⟩ dX12_step_44 (fun r9 s8 => ?_)
      refine rf_goto C 52 dX12_step_47 (by decide) ?_
      exact rf_iret C dX12_step_52
    refine rf_iload_n C dX12_step_31 rfl 0 rfl ?_
    refine rf_goto C 52 dX12_step_32 (by decide) ?_
    exact rf_iret C dX12_step_52
  refine rf_iconst C (v := (-1 : Int32)) dX12_step_20 rfl ?_
  exact rf_iret C dX12_step_21

def fX12_ambiguous (n : Nat) (s0 : PH) : Option (Int32 × PH) :=
(bd (fX12_someReached n 157 36 s0) fun (r2 : Int32) (s1 : PH) =>
(if r2 = 0 then
(lt (nI 1) fun (v3 : Int32) =>
(lt (nI 0) fun (v4 : Int32) =>
(loo3 (fun (recrec8 : Int32 → Int32 → PH → Option (Int32 × PH)) (v5 : Int32) (v6 : Int32) (s7 : PH) =>
(if (nI 5) ≤ v6 then
(some ((-9 : Int32), s7))
else
(lt (nI 0) fun (v9 : Int32) =>
(loo2 (fun (recrec12 : Int32 → PH → Option (Int32 × PH)) (v10 : Int32) (s11 : PH) =>
(if v5 ≤ v10 then
(lt (v5 * (nI 5)) fun (v13 : Int32) =>
(lt (v6 + (nI 1)) fun (v14 : Int32) =>
(recrec8 v13 v14 s11)))
else
(lt (si s11 148 24 v6) fun (s15 : PH) =>
(lt v10 fun (v16 : Int32) =>
(lt (nI 0) fun (v17 : Int32) =>
(lt (v6 - (nI 1)) fun (v18 : Int32) =>
(loo3 (fun (recrec22 : Int32 → Int32 → PH → Option (Int32 × PH)) (v19 : Int32) (v20 : Int32) (s21 : PH) =>
(if v20 < 0 then
(lt (nI 0) fun (v23 : Int32) =>
(loo3 (fun (recrec27 : Int32 → Int32 → PH → Option (Int32 × PH)) (v24 : Int32) (v25 : Int32) (s26 : PH) =>
(if v6 ≤ v25 then
(bd (fX12_laysWays n s26) fun _ (s28 : PH) =>
(bd (fX12_start s28) fun (r30 : Int32) (s29 : PH) =>
(bd (fX12_waysOf r30 (nI 0) v6 s29) fun (r32 : Int64) (s31 : PH) =>
(if r32 ≤ (1 : Int64) then
(lt (v10 + (nI 1)) fun (v33 : Int32) =>
(recrec12 v33 s31))
else
(some (v24, s31))))))
else
(ra 8 v25 (s26.1 166) fun (v34 : Int32) =>
(lt ((((nI 6) * v24) + v34) + (nI 1)) fun (v35 : Int32) =>
(lt (v25 + (nI 1)) fun (v36 : Int32) =>
(recrec27 v35 v36 s26)))))) n v17 v23 s21))
else
(wa 8 v20 (lt (si s21 166 v20.toNatClampNeg (v19 - v19 / (nI 5) * (nI 5))) fun (s37 : PH) =>
(lt (v19 / (nI 5)) fun (v38 : Int32) =>
(lt (v20 + (-1 : Int32)) fun (v39 : Int32) =>
(recrec22 v38 v39 s37))))))) n v16 v18 s15))))))) n v9 s7)))) n v3 v4 s1)))
else
(some ((-2 : Int32), s1))))
set_option maxRecDepth 20000 in
set_option maxHeartbeats 2000000 in
theorem mX12_ambiguous (l : Launch) (n : Nat) (s0 : PH) : Cti 174 l yX12_ambiguous cX12_ambiguous 7 (some .int) (rmOf 4 95) (fun E => [.ref (E.2.1 148)]) s0 (fX12_ambiguous n s0) := by
  refine Cti.of (by decide) rfl (lv := fun E => [(0, .ref (E.2.1 148))]) (fun _ => Nat.le_of_ble_eq_true rfl) (fun _ => rfl) (fun Γ hΓ _ C => ?_)
  subst hΓ
  unfold fX12_ambiguous
  refine rf_aload_n C dX12_ambiguous_0 rfl 0 rfl ?_
  refine rf_aload_n C dX12_ambiguous_1 rfl 0 rfl ?_
  refine rf_get C (v := .ref ((gE Γ).2.1 157)) cfX12 flX12_39 (by decide) oX12 rfl dX12_ambiguous_2 ?_
  refine rf_callVi C (rmc := rmOf 0 0) [.ref ((gE Γ).2.1 157)] (by decide) (mX12_someReached (gL Γ) n 157 36 s0 ar157) mfX12_someReached mvX12_someReached mlX12_264 rfl oX12 rfl rfl rfl (Nat.le_of_ble_eq_true rfl) ⟨Nat.le_of_ble_eq_true rfl, Nat.le_of_ble_eq_true rfl⟩ dX12_ambiguous_5 (fun r2 s1 => ?_)
  refine rf_if_eq C 14 dX12_ambiguous_8 (by decide) (fun _ => ?_) (fun _ => ?_)
  · refine rf_iconst C (v := (nI 1)) dX12_ambiguous_14 rfl ?_
    refine rf_istore_n C (fun v3 => [(1, .int v3), (0, .ref ((gE Γ).2.1 148))]) dX12_ambiguous_15 rfl (by decide) (fun _ => rfl) (fun v3 => ?_)
    refine rf_iconst C (v := (nI 0)) dX12_ambiguous_16 rfl ?_
    refine rf_istore_n C (fun v4 => [(2, .int v4), (1, .int v3), (0, .ref ((gE Γ).2.1 148))]) dX12_ambiguous_17 rfl (by decide) (fun _ => rfl) (fun v4 => ?_)
    refine rf_sub [2, 1, 0] rfl ?_
    refine rf_loo3 (fun _ _ _ => True) (fun _ _ s7 => s7) (fun v5 v6 s7 => [(0, .ref ((gE Γ).2.1 148)), (1, .int v5), (2, .int v6)]) (fun recrec8 hrec8 v5 v6 s7 _ => ?_) n v3 v4 s1 trivial
    refine rf_iload_n C dX12_ambiguous_18 rfl 2 rfl ?_
    refine rf_iconst C (v := (nI 5)) dX12_ambiguous_19 rfl ?_
    refine rf_icmp_ge C 144 dX12_ambiguous_20 (by decide) (fun _ => ?_) (fun _ => ?_)
    · refine rf_bipush C (v := (-9 : Int32)) dX12_ambiguous_144 rfl ?_
      exact rf_iret C dX12_ambiguous_146
    refine rf_iconst C (v := (nI 0)) dX12_ambiguous_23 rfl ?_
    refine rf_istore_n C (fun v9 => [(3, .int v9), (0, .ref ((gE Γ).2.1 148)), (1, .int v5), (2, .int v6)]) dX12_ambiguous_24 rfl (by decide) (fun _ => rfl) (fun v9 => ?_)
    refine rf_sub [1, 2, 3, 0] rfl ?_
    refine rf_loo2 (fun _ _ => True) (fun _ s11 => s11) (fun v10 s11 => [(0, .ref ((gE Γ).2.1 148)), (1, .int v5), (2, .int v6), (3, .int v10)]) (fun recrec12 hrec12 v10 s11 _ => ?_) n v9 s7 trivial
    refine rf_iload_n C dX12_ambiguous_25 rfl 3 rfl ?_
    refine rf_iload_n C dX12_ambiguous_26 rfl 1 rfl ?_
    refine rf_icmp_ge C 134 dX12_ambiguous_27 (by decide) (fun _ => ?_) (fun _ => ?_)
    · refine rf_iload_n C dX12_ambiguous_134 rfl 1 rfl ?_
      refine rf_iconst C (v := (nI 5)) dX12_ambiguous_135 rfl ?_
      refine rf_imul C dX12_ambiguous_136 ?_
      refine rf_istore_n C (fun v13 => [(1, .int v13), (0, .ref ((gE Γ).2.1 148)), (2, .int v6), (3, .int v10)]) dX12_ambiguous_137 rfl (by decide) (fun _ => rfl) (fun v13 => ?_)
      refine rf_iinc C (fun v14 => [(2, .int v14), (1, .int v13), (0, .ref ((gE Γ).2.1 148)), (3, .int v10)]) dX12_ambiguous_138 2 rfl rfl (by decide) (fun _ => rfl) (fun v14 => ?_)
      refine rf_goto C 18 dX12_ambiguous_141 (by decide) ?_
      exact rf_sub [2, 1, 0] rfl (hrec8 v13 v14 s11 trivial)
    refine rf_aload_n C dX12_ambiguous_30 rfl 0 rfl ?_
    refine rf_iload_n C dX12_ambiguous_31 rfl 2 rfl ?_
    refine rf_puti C cfX12 flX12_251 (by decide) rfl oX12 (fty := .int) rfl rfl rfl (fun _ _ _ _ => Nat.le_of_ble_eq_true rfl) (fun _ _ _ _ => rfl) dX12_ambiguous_32 (fun s15 => ?_)
    refine rf_iload_n C dX12_ambiguous_35 rfl 3 rfl ?_
    refine rf_istore C (fun v16 => [(4, .int v16), (0, .ref ((gE Γ).2.1 148)), (1, .int v5), (2, .int v6), (3, .int v10)]) dX12_ambiguous_36 (by decide) (fun _ => rfl) (fun v16 => ?_)
    refine rf_iconst C (v := (nI 0)) dX12_ambiguous_38 rfl ?_
    refine rf_istore C (fun v17 => [(5, .int v17), (4, .int v16), (0, .ref ((gE Γ).2.1 148)), (1, .int v5), (2, .int v6), (3, .int v10)]) dX12_ambiguous_39 (by decide) (fun _ => rfl) (fun v17 => ?_)
    refine rf_iload_n C dX12_ambiguous_41 rfl 4 rfl ?_
    refine rf_iconst C (v := (nI 1)) dX12_ambiguous_42 rfl ?_
    refine rf_isub C dX12_ambiguous_43 ?_
    refine rf_istore C (fun v18 => [(6, .int v18), (5, .int v17), (4, .int v16), (0, .ref ((gE Γ).2.1 148)), (1, .int v5), (2, .int v6), (3, .int v10)]) dX12_ambiguous_44 (by decide) (fun _ => rfl) (fun v18 => ?_)
    refine rf_sub [3, 4, 5, 6, 2, 1, 0] rfl ?_
    refine rf_loo3 (fun _ _ _ => True) (fun _ _ s21 => s21) (fun v19 v20 s21 => [(0, .ref ((gE Γ).2.1 148)), (1, .int v5), (2, .int v6), (3, .int v10), (4, .int v19), (5, .int v17), (6, .int v20)]) (fun recrec22 hrec22 v19 v20 s21 _ => ?_) n v16 v18 s15 trivial
    refine rf_iload C dX12_ambiguous_46 6 rfl ?_
    refine rf_if_lt C 74 dX12_ambiguous_48 (by decide) (fun _ => ?_) (fun _ => ?_)
    · refine rf_iconst C (v := (nI 0)) dX12_ambiguous_74 rfl ?_
      refine rf_istore C (fun v23 => [(6, .int v23), (0, .ref ((gE Γ).2.1 148)), (1, .int v5), (2, .int v6), (3, .int v10), (4, .int v19), (5, .int v17)]) dX12_ambiguous_75 (by decide) (fun _ => rfl) (fun v23 => ?_)
      refine rf_sub [1, 2, 3, 4, 6, 0] rfl ?_
      refine rf_loo3 (fun _ _ _ => True) (fun _ _ s26 => s26) (fun v24 v25 s26 => [(0, .ref ((gE Γ).2.1 148)), (1, .int v5), (2, .int v6), (3, .int v10), (5, .int v24), (6, .int v25)]) (fun recrec27 hrec27 v24 v25 s26 _ => ?_) n v17 v23 s21 trivial
      refine rf_iload C dX12_ambiguous_77 5 rfl ?_
      refine rf_iload_n C dX12_ambiguous_79 rfl 2 rfl ?_
      refine rf_icmp_ge C 106 dX12_ambiguous_80 (by decide) (fun _ => ?_) (fun _ => ?_)
      · refine rf_aload_n C dX12_ambiguous_106 rfl 0 rfl ?_
        refine rf_callVv C (rmc := rmOf 3 72) [] (by decide) (mX12_laysWays (gL Γ) n s26) mfX12_laysWays mvX12_laysWays mlX12_290 rfl oX12 rfl rfl rfl (Nat.le_of_ble_eq_true rfl) ⟨Nat.le_of_ble_eq_true rfl, Nat.le_of_ble_eq_true rfl⟩ dX12_ambiguous_107 (fun s28 => ?_)
        refine rf_aload_n C dX12_ambiguous_110 rfl 0 rfl ?_
        refine rf_aload_n C dX12_ambiguous_111 rfl 0 rfl ?_
        refine rf_callVi C (rmc := rmOf 0 0) [] (by decide) (mX12_start (gL Γ) s28) mfX12_start mvX12_start mlX12_124 rfl oX12 rfl rfl rfl (Nat.le_of_ble_eq_true rfl) ⟨Nat.le_of_ble_eq_true rfl, Nat.le_of_ble_eq_true rfl⟩ dX12_ambiguous_112 (fun r30 s29 => ?_)
        refine rf_iconst C (v := (nI 0)) dX12_ambiguous_115 rfl ?_
        refine rf_iload_n C dX12_ambiguous_116 rfl 2 rfl ?_
        refine rf_callVl C (rmc := rmOf 0 0) [.int r30, .int (nI 0), .int v6] (by decide) (mX12_waysOf (gL Γ) r30 (nI 0) v6 s29) mfX12_waysOf mvX12_waysOf mlX12_280 rfl oX12 rfl rfl rfl (Nat.le_of_ble_eq_true rfl) ⟨Nat.le_of_ble_eq_true rfl, Nat.le_of_ble_eq_true rfl⟩ dX12_ambiguous_117 (fun r32 s31 => ?_)
        refine rf_lconst C (v := (1 : Int64)) dX12_ambiguous_120 rfl ?_
        refine rf_lcmp_le C 128 dX12_ambiguous_121 dX12_ambiguous_122 (by decide) (fun _ => ?_) (fun _ => ?_)
        · refine rf_iinc C (fun v33 => [(3, .int v33), (0, .ref ((gE Γ).2.1 148)), (1, .int v5), (2, .int v6), (5, .int v24), (6, .int v25)]) dX12_ambiguous_128 3 rfl rfl (by decide) (fun _ => rfl) (fun v33 => ?_)
          refine rf_goto C 25 dX12_ambiguous_131 (by decide) ?_
          exact rf_sub [1, 2, 3, 0] rfl (hrec12 v33 s31 trivial)
        refine rf_iload C dX12_ambiguous_125 4 rfl ?_
        exact rf_iret C dX12_ambiguous_127
      refine rf_bipush C (v := (nI 6)) dX12_ambiguous_83 rfl ?_
      refine rf_iload C dX12_ambiguous_85 4 rfl ?_
      refine rf_imul C dX12_ambiguous_87 ?_
      refine rf_aload_n C dX12_ambiguous_88 rfl 0 rfl ?_
      refine rf_get C (v := .ref ((gE Γ).2.1 166)) cfX12 flX12_66 (by decide) oX12 rfl dX12_ambiguous_89 ?_
      refine rf_iload C dX12_ambiguous_92 5 rfl ?_
      refine rf_iald C ar166 dX12_ambiguous_94 (fun v34 => ?_)
      refine rf_iadd C dX12_ambiguous_95 ?_
      refine rf_iconst C (v := (nI 1)) dX12_ambiguous_96 rfl ?_
      refine rf_iadd C dX12_ambiguous_97 ?_
      refine rf_istore C (fun v35 => [(5, .int v35), (0, .ref ((gE Γ).2.1 148)), (1, .int v5), (2, .int v6), (3, .int v10), (6, .int v25)]) dX12_ambiguous_98 (by decide) (fun _ => rfl) (fun v35 => ?_)
      refine rf_iinc C (fun v36 => [(6, .int v36), (5, .int v35), (0, .ref ((gE Γ).2.1 148)), (1, .int v5), (2, .int v6), (3, .int v10)]) dX12_ambiguous_100 5 rfl rfl (by decide) (fun _ => rfl) (fun v36 => ?_)
      refine rf_goto C 77 dX12_ambiguous_103 (by decide) ?_
      exact rf_sub [2, 3, 4, 5, 1, 0] rfl (hrec27 v35 v36 s26 trivial)
    refine rf_aload_n C dX12_ambiguous_51 rfl 0 rfl ?_
    refine rf_get C (v := .ref ((gE Γ).2.1 166)) cfX12 flX12_66 (by decide) oX12 rfl dX12_ambiguous_52 ?_
    refine rf_iload C dX12_ambiguous_55 6 rfl ?_
    refine rf_iload C dX12_ambiguous_57 4 rfl ?_
    refine rf_iconst C (v := (nI 5)) dX12_ambiguous_59 rfl ?_
    refine rf_irem C dX12_ambiguous_60 (by decide) ?_
    refine rf_iast C ar166 dX12_ambiguous_61 (fun s37 => ?_)
    refine rf_iload C dX12_ambiguous_62 4 rfl ?_
    refine rf_iconst C (v := (nI 5)) dX12_ambiguous_64 rfl ?_
    refine rf_idiv C dX12_ambiguous_65 (by decide) ?_
    refine rf_istore C (fun v38 => [(4, .int v38), (0, .ref ((gE Γ).2.1 148)), (1, .int v5), (2, .int v6), (3, .int v10), (5, .int v17), (6, .int v20)]) dX12_ambiguous_66 (by decide) (fun _ => rfl) (fun v38 => ?_)
    refine rf_iinc C (fun v39 => [(6, .int v39), (4, .int v38), (0, .ref ((gE Γ).2.1 148)), (1, .int v5), (2, .int v6), (3, .int v10), (5, .int v17)]) dX12_ambiguous_68 6 rfl rfl (by decide) (fun _ => rfl) (fun v39 => ?_)
    refine rf_goto C 46 dX12_ambiguous_71 (by decide) ?_
    exact rf_sub [2, 3, 4, 5, 1, 6, 0] rfl (hrec22 v38 v39 s37 trivial)
  refine rf_bipush C (v := (-2 : Int32)) dX12_ambiguous_11 rfl ?_
  exact rf_iret C dX12_ambiguous_13

def fX12_tell (n : Nat) (a1 : Int32) (s0 : PH) : Option (Int32 × PH) :=
(if a1 = (nI 0) then
(bd (fX12_many s0) fun (r3 : Int32) (s2 : PH) =>
(some (r3, s2)))
else
(if a1 = (nI 1) then
(bd (fX12_start s0) fun (r6 : Int32) (s5 : PH) =>
(some (r6, s5)))
else
(if a1 = (nI 2) then
(lt (nI 0) fun (v8 : Int32) =>
(lt (nI 0) fun (v9 : Int32) =>
(loo3 (fun (recrec13 : Int32 → Int32 → PH → Option (Int32 × PH)) (v10 : Int32) (v11 : Int32) (s12 : PH) =>
(if (nI 6) ≤ v11 then
(some (v10, s12))
else
(bd (fX12_isDefined n v11 s12) fun (r15 : Int32) (s14 : PH) =>
(jn (fun (v16 : Int32) (s17 : PH) =>
(lt (v10 ||| v16) fun (v19 : Int32) =>
(lt (v11 + (nI 1)) fun (v20 : Int32) =>
(recrec13 v19 v20 s17)))) (fun (j18 : Int32 → PH → Option (Int32 × PH)) =>
(if r15 = 0 then
(j18 (nI 0) s14)
else
(j18 ((nI 1) <<< (v11 &&& 31)) s14))))))) n v8 v9 s0)))
else
(if a1 = (nI 3) then
(some ((s0.1 148 4), s0))
else
(if a1 = (nI 4) then
(some ((s0.1 148 2), s0))
else
(if a1 = (nI 5) then
(some ((s0.1 148 7), s0))
else
(some ((-1 : Int32), s0))))))))
set_option maxRecDepth 20000 in
set_option maxHeartbeats 2000000 in
theorem mX12_tell (l : Launch) (n : Nat) (a1 : Int32) (s0 : PH) : Cti 174 l yX12_tell cX12_tell 4 (some .int) (rmOf 3 65) (fun E => [.ref (E.2.1 148), .int a1]) s0 (fX12_tell n a1 s0) := by
  refine Cti.of (by decide) rfl (lv := fun E => [(0, .ref (E.2.1 148)), (1, .int a1)]) (fun _ => Nat.le_of_ble_eq_true rfl) (fun _ => rfl) (fun Γ hΓ _ C => ?_)
  subst hΓ
  unfold fX12_tell
  refine rf_iload_n C dX12_tell_0 rfl 1 rfl ?_
  refine rf_ite (fun hk1 => ?_) (fun hk1 => ?_)
  · refine rf_swIn C 40 dX12_tell_1 (by rw [hk1]; decide) (by rw [hk1]; decide) (by rw [hk1]; rfl) (by decide) ?_
    refine rf_aload_n C dX12_tell_40 rfl 0 rfl ?_
    refine rf_callVi C (rmc := rmOf 0 0) [] (by decide) (mX12_many (gL Γ) s0) mfX12_many mvX12_many mlX12_94 rfl oX12 rfl rfl rfl (Nat.le_of_ble_eq_true rfl) ⟨Nat.le_of_ble_eq_true rfl, Nat.le_of_ble_eq_true rfl⟩ dX12_tell_41 (fun r3 s2 => ?_)
    exact rf_iret C dX12_tell_44
  refine rf_ite (fun hk4 => ?_) (fun hk4 => ?_)
  · refine rf_swIn C 45 dX12_tell_1 (by rw [hk4]; decide) (by rw [hk4]; decide) (by rw [hk4]; rfl) (by decide) ?_
    refine rf_aload_n C dX12_tell_45 rfl 0 rfl ?_
    refine rf_callVi C (rmc := rmOf 0 0) [] (by decide) (mX12_start (gL Γ) s0) mfX12_start mvX12_start mlX12_124 rfl oX12 rfl rfl rfl (Nat.le_of_ble_eq_true rfl) ⟨Nat.le_of_ble_eq_true rfl, Nat.le_of_ble_eq_true rfl⟩ dX12_tell_46 (fun r6 s5 => ?_)
    exact rf_iret C dX12_tell_49
  refine rf_ite (fun hk7 => ?_) (fun hk7 => ?_)
  · refine rf_swIn C 50 dX12_tell_1 (by rw [hk7]; decide) (by rw [hk7]; decide) (by rw [hk7]; rfl) (by decide) ?_
    refine rf_iconst C (v := (nI 0)) dX12_tell_50 rfl ?_
    refine rf_istore_n C (fun v8 => [(2, .int v8), (0, .ref ((gE Γ).2.1 148)), (1, .int a1)]) dX12_tell_51 rfl (by decide) (fun _ => rfl) (fun v8 => ?_)
    refine rf_iconst C (v := (nI 0)) dX12_tell_52 rfl ?_
    refine rf_istore_n C (fun v9 => [(3, .int v9), (2, .int v8), (0, .ref ((gE Γ).2.1 148)), (1, .int a1)]) dX12_tell_53 rfl (by decide) (fun _ => rfl) (fun v9 => ?_)
    refine rf_sub [2, 1, 0] rfl ?_
    refine rf_loo3 (fun _ _ _ => True) (fun _ _ s12 => s12) (fun v10 v11 s12 => [(0, .ref ((gE Γ).2.1 148)), (2, .int v10), (3, .int v11)]) (fun recrec13 hrec13 v10 v11 s12 _ => ?_) n v8 v9 s0 trivial
    refine rf_iload_n C dX12_tell_54 rfl 2 rfl ?_
    refine rf_bipush C (v := (nI 6)) dX12_tell_55 rfl ?_
    refine rf_icmp_ge C 84 dX12_tell_57 (by decide) (fun _ => ?_) (fun _ => ?_)
    · refine rf_iload_n C dX12_tell_84 rfl 1 rfl ?_
      exact rf_iret C dX12_tell_85
    refine rf_iload_n C dX12_tell_60 rfl 1 rfl ?_
    refine rf_aload_n C dX12_tell_61 rfl 0 rfl ?_
    refine rf_iload_n C dX12_tell_62 rfl 2 rfl ?_
    refine rf_callVi C (rmc := rmOf 2 44) [.int v11] (by decide) (mX12_isDefined (gL Γ) n v11 s12) mfX12_isDefined mvX12_isDefined mlX12_217 rfl oX12 rfl rfl rfl (Nat.le_of_ble_eq_true rfl) ⟨Nat.le_of_ble_eq_true rfl, Nat.le_of_ble_eq_true rfl⟩ dX12_tell_63 (fun r15 s14 => ?_)
    refine rf_jn2 (fun _ _ => True) (fun _ s17 => s17) (fun v16 s17 => [(0, .ref ((gE Γ).2.1 148)), (3, .int v11)]) (fun v16 s17 => [.int v16, .int v10]) 76 (fun v16 s17 _ => ?_) (fun j18 hj18 => ?_)
    · refine rf_ior C dX12_tell_76 ?_
      refine rf_istore_n C (fun v19 => [(2, .int v19), (0, .ref ((gE Γ).2.1 148)), (3, .int v11)]) dX12_tell_77 rfl (by decide) (fun _ => rfl) (fun v19 => ?_)
      refine rf_iinc C (fun v20 => [(3, .int v20), (2, .int v19), (0, .ref ((gE Γ).2.1 148))]) dX12_tell_78 2 rfl rfl (by decide) (fun _ => rfl) (fun v20 => ?_)
      refine rf_goto C 54 dX12_tell_81 (by decide) ?_
      exact rf_sub [2, 1, 0] rfl (hrec13 v19 v20 s17 trivial)
    refine rf_if_eq C 75 dX12_tell_66 (by decide) (fun _ => ?_) (fun _ => ?_)
    · refine rf_iconst C (v := (nI 0)) dX12_tell_75 rfl ?_
      exact rf_sub [0, 2] rfl (hj18 (nI 0) s14 trivial)
    refine rf_iconst C (v := (nI 1)) dX12_tell_69 rfl ?_
    refine rf_iload_n C dX12_tell_70 rfl 2 rfl ?_
    refine rf_ishl C dX12_tell_71 ?_
    refine rf_goto C 76 dX12_tell_72 (by decide) ?_
    exact rf_sub [0, 2] rfl (hj18 ((nI 1) <<< (v11 &&& 31)) s14 trivial)
  refine rf_ite (fun hk21 => ?_) (fun hk21 => ?_)
  · refine rf_swIn C 86 dX12_tell_1 (by rw [hk21]; decide) (by rw [hk21]; decide) (by rw [hk21]; rfl) (by decide) ?_
    refine rf_aload_n C dX12_tell_86 rfl 0 rfl ?_
    refine rf_get C (v := .int (s0.1 148 4)) cfX12 flX12_185 (by decide) oX12 rfl dX12_tell_87 ?_
    exact rf_iret C dX12_tell_90
  refine rf_ite (fun hk22 => ?_) (fun hk22 => ?_)
  · refine rf_swIn C 91 dX12_tell_1 (by rw [hk22]; decide) (by rw [hk22]; decide) (by rw [hk22]; rfl) (by decide) ?_
    refine rf_aload_n C dX12_tell_91 rfl 0 rfl ?_
    refine rf_get C (v := .int (s0.1 148 2)) cfX12 flX12_211 (by decide) oX12 rfl dX12_tell_92 ?_
    exact rf_iret C dX12_tell_95
  refine rf_ite (fun hk23 => ?_) (fun hk23 => ?_)
  · refine rf_swIn C 96 dX12_tell_1 (by rw [hk23]; decide) (by rw [hk23]; decide) (by rw [hk23]; rfl) (by decide) ?_
    refine rf_aload_n C dX12_tell_96 rfl 0 rfl ?_
    refine rf_get C (v := .int (s0.1 148 7)) cfX12 flX12_257 (by decide) oX12 rfl dX12_tell_97 ?_
    exact rf_iret C dX12_tell_100
  refine rf_swOut C 101 dX12_tell_1 (by have nhk1 := lv_neT hk1 (show (nI 0).toInt = 0 from rfl); have nhk4 := lv_neT hk4 (show (nI 1).toInt = 1 from rfl); have nhk7 := lv_neT hk7 (show (nI 2).toInt = 2 from rfl); have nhk21 := lv_neT hk21 (show (nI 3).toInt = 3 from rfl); have nhk22 := lv_neT hk22 (show (nI 4).toInt = 4 from rfl); have nhk23 := lv_neT hk23 (show (nI 5).toInt = 5 from rfl); omega) (by decide) ?_
  refine rf_iconst C (v := (-1 : Int32)) dX12_tell_101 rfl ?_
  exact rf_iret C dX12_tell_102

def fX12_told (n : Nat) (a1 : Int32) (s0 : PH) : Option (Int32 × PH) :=
(bd (fX12_tell n a1 s0) fun (r2 : Int32) (s1 : PH) =>
(some (r2, s1)))
set_option maxRecDepth 20000 in
set_option maxHeartbeats 2000000 in
theorem mX12_told (l : Launch) (n : Nat) (a1 : Int32) (s0 : PH) : Cti 174 l yX12_told cX12_told 2 (some .int) (rmOf 4 88) (fun E => [.ref (E.2.1 148), .int a1]) s0 (fX12_told n a1 s0) := by
  refine Cti.of (by decide) rfl (lv := fun E => [(0, .ref (E.2.1 148)), (1, .int a1)]) (fun _ => Nat.le_of_ble_eq_true rfl) (fun _ => rfl) (fun Γ hΓ _ C => ?_)
  subst hΓ
  unfold fX12_told
  refine rf_aload_n C dX12_told_0 rfl 0 rfl ?_
  refine rf_iload_n C dX12_told_1 rfl 1 rfl ?_
  refine rf_callVi C (rmc := rmOf 3 65) [.int a1] (by decide) (mX12_tell (gL Γ) n a1 s0) mfX12_tell mvX12_tell mlX12_306 rfl oX12 rfl rfl rfl (Nat.le_of_ble_eq_true rfl) ⟨Nat.le_of_ble_eq_true rfl, Nat.le_of_ble_eq_true rfl⟩ dX12_told_2 (fun r2 s1 => ?_)
  exact rf_iret C dX12_told_5

