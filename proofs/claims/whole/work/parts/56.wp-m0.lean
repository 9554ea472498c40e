/-! what each block of the code asks (printed by wpgen.py) -/
theorem p_M_bytesOf_0 {S : rz_S} {K : Int32 → rz_S → Prop} {a0 : Int32} (w : K (1000 - (120 * ((a0 - 1) / 3))) S) : rz mM_bytesOf 0 [(0, .int a0)] [] S (rz_i K) := by
  refine rz_sipush (v := 1000) d_M_bytesOf_0 (by decide) ?_
  refine rz_bipush (v := 120) d_M_bytesOf_3 (by decide) ?_
  refine rz_pure (pc' := 6) d_M_bytesOf_5 rfl ?_
  refine rz_iconst (v := 1) d_M_bytesOf_6 (by decide) ?_
  refine rz_isub d_M_bytesOf_7 ?_
  refine rz_iconst (v := 3) d_M_bytesOf_8 (by decide) ?_
  refine rz_idiv d_M_bytesOf_9 (by decide) ?_
  refine rz_imul d_M_bytesOf_10 ?_
  refine rz_isub d_M_bytesOf_11 ?_
  exact rz_ireti d_M_bytesOf_12 rfl rfl w
theorem p_M_sectorsOf_0 {S : rz_S} {K : Int32 → rz_S → Prop} {a0 : Int32} (w : K (8 - ((a0 - 1) / 3)) S) : rz mM_sectorsOf 0 [(0, .int a0)] [] S (rz_i K) := by
  refine rz_bipush (v := 8) d_M_sectorsOf_0 (by decide) ?_
  refine rz_pure (pc' := 3) d_M_sectorsOf_2 rfl ?_
  refine rz_iconst (v := 1) d_M_sectorsOf_3 (by decide) ?_
  refine rz_isub d_M_sectorsOf_4 ?_
  refine rz_iconst (v := 3) d_M_sectorsOf_5 (by decide) ?_
  refine rz_idiv d_M_sectorsOf_6 (by decide) ?_
  refine rz_isub d_M_sectorsOf_7 ?_
  exact rz_ireti d_M_sectorsOf_8 rfl rfl w
theorem p_M_isLegal_0 {S : rz_S} {K : Int32 → rz_S → Prop} {a0 : Int32} {a1 : Int32} (w : ((a0 < 1 → K 0 S) ∧ (¬ a0 < 1 → ((12 < a0 → K 0 S) ∧ (¬ 12 < a0 → ((a1 < 0 → K 0 S) ∧ (¬ a1 < 0 → rz_ev mM_sectorsOf [.int a0] S (rz_i (fun xq4 Sq4 => ((xq4 ≤ a1 → K 0 Sq4) ∧ (¬ xq4 ≤ a1 → K 1 Sq4))))))))))) : rz mM_isLegal 0 [(0, .int a0), (1, .int a1)] [] S (rz_i K) := by
  refine rz_pure (pc' := 1) d_M_isLegal_0 rfl ?_
  refine rz_iconst (v := 1) d_M_isLegal_1 (by decide) ?_
  refine rz_icmplt (tgt := 27) d_M_isLegal_2 rfl (fun b1 => ?_) (fun b1 => ?_)
  · skip
    refine rz_iconst (v := 0) d_M_isLegal_27 (by decide) ?_
    exact rz_ireti d_M_isLegal_28 rfl (by decide) (w.1 b1)
  · skip
    refine rz_pure (pc' := 6) d_M_isLegal_5 rfl ?_
    refine rz_bipush (v := 12) d_M_isLegal_6 (by decide) ?_
    refine rz_icmpgt (tgt := 27) d_M_isLegal_8 rfl (fun b2 => ?_) (fun b2 => ?_)
    · skip
      refine rz_iconst (v := 0) d_M_isLegal_27 (by decide) ?_
      exact rz_ireti d_M_isLegal_28 rfl (by decide) ((w.2 b1).1 b2)
    · skip
      refine rz_pure (pc' := 12) d_M_isLegal_11 rfl ?_
      refine rz_iflt (tgt := 27) d_M_isLegal_12 rfl (fun b3 => ?_) (fun b3 => ?_)
      · skip
        refine rz_iconst (v := 0) d_M_isLegal_27 (by decide) ?_
        exact rz_ireti d_M_isLegal_28 rfl (by decide) (((w.2 b1).2 b2).1 b3)
      · skip
        refine rz_pure (pc' := 16) d_M_isLegal_15 rfl ?_
        refine rz_pure (pc' := 17) d_M_isLegal_16 rfl ?_
        refine rz_callSi (t := [.int a0]) d_M_isLegal_17 rfl w_12_1 rfl rfl (((w.2 b1).2 b2).2 b3) (fun xq4 Sq4 q4 => ?_)
        refine rz_icmpge (tgt := 27) d_M_isLegal_20 rfl (fun b5 => ?_) (fun b5 => ?_)
        · skip
          refine rz_iconst (v := 0) d_M_isLegal_27 (by decide) ?_
          exact rz_ireti d_M_isLegal_28 rfl (by decide) (q4.1 b5)
        · skip
          refine rz_iconst (v := 1) d_M_isLegal_23 (by decide) ?_
          refine rz_pure (pc' := 28) d_M_isLegal_24 rfl ?_
          exact rz_ireti d_M_isLegal_28 rfl (by decide) (q4.2 b5)
theorem p_M_fault_0 {S : rz_S} {K : Int32 → rz_S → Prop} {a1 : Int32} {a2 : Int32} {a3 : Int32} (w : K a1 (rz_uI (rz_uI S 116 4 a2) 116 5 a3)) : rz mM_fault 0 [(0, .ref 116), (1, .int a1), (2, .int a2), (3, .int a3)] [] S (rz_i K) := by
  refine rz_pure (pc' := 1) d_M_fault_0 rfl ?_
  refine rz_pure (pc' := 2) d_M_fault_1 rfl ?_
  refine rz_puti d_M_fault_2 f_12_7 rfl rfl rfl ?_
  refine rz_pure (pc' := 6) d_M_fault_5 rfl ?_
  refine rz_pure (pc' := 7) d_M_fault_6 rfl ?_
  refine rz_puti d_M_fault_7 f_12_11 rfl rfl rfl ?_
  refine rz_pure (pc' := 11) d_M_fault_10 rfl ?_
  exact rz_ireti d_M_fault_11 rfl rfl w
theorem p_M_bitAt_0 {S : rz_S} {K : Int32 → rz_S → Prop} {a1 : Int32} {a2 : Int32} (w : rx_in ((1000 * (a1 - 1)) + (a2 >>> ((3 : Int32) &&& 31))) 12000 = true ∧ K (((S.1 117 (((1000 * (a1 - 1)) + (a2 >>> ((3 : Int32) &&& 31))).toNatClampNeg)) >>> ((7 - (a2 &&& 7)) &&& 31)) &&& 1) S) : rz mM_bitAt 0 [(0, .ref 116), (1, .int a1), (2, .int a2)] [] S (rz_i K) := by
  refine rz_pure (pc' := 1) d_M_bitAt_0 rfl ?_
  refine rz_getr d_M_bitAt_1 f_12_14 rfl rfl ?_
  refine rz_sipush (v := 1000) d_M_bitAt_4 (by decide) ?_
  refine rz_pure (pc' := 8) d_M_bitAt_7 rfl ?_
  refine rz_iconst (v := 1) d_M_bitAt_8 (by decide) ?_
  refine rz_isub d_M_bitAt_9 ?_
  refine rz_imul d_M_bitAt_10 ?_
  refine rz_pure (pc' := 12) d_M_bitAt_11 rfl ?_
  refine rz_iconst (v := 3) d_M_bitAt_12 (by decide) ?_
  refine rz_ishr d_M_bitAt_13 ?_
  refine rz_iadd d_M_bitAt_14 ?_
  refine rz_baldv (F := S.1 117) (i := ((1000 * (a1 - 1)) + (a2 >>> ((3 : Int32) &&& 31))).toNatClampNeg) d_M_bitAt_15 rfl (by decide) w.1 rfl rfl ?_
  refine rz_bipush (v := 7) d_M_bitAt_16 (by decide) ?_
  refine rz_pure (pc' := 19) d_M_bitAt_18 rfl ?_
  refine rz_bipush (v := 7) d_M_bitAt_19 (by decide) ?_
  refine rz_iand d_M_bitAt_21 ?_
  refine rz_isub d_M_bitAt_22 ?_
  refine rz_ishr d_M_bitAt_23 ?_
  refine rz_iconst (v := 1) d_M_bitAt_24 (by decide) ?_
  refine rz_iand d_M_bitAt_25 ?_
  exact rz_ireti d_M_bitAt_26 rfl rfl w.2
theorem d_M_setBit_0 : decode (rm_code mM_setBit) 0 = .ok (.sipush (1000), 3) := by decide +kernel
theorem d_M_setBit_3 : decode (rm_code mM_setBit) 3 = .ok (.iload_n 1, 1) := by decide +kernel
theorem d_M_setBit_4 : decode (rm_code mM_setBit) 4 = .ok (.iconst 1, 1) := by decide +kernel
theorem d_M_setBit_5 : decode (rm_code mM_setBit) 5 = .ok (.isub, 1) := by decide +kernel
theorem d_M_setBit_6 : decode (rm_code mM_setBit) 6 = .ok (.imul, 1) := by decide +kernel
theorem d_M_setBit_7 : decode (rm_code mM_setBit) 7 = .ok (.iload_n 2, 1) := by decide +kernel
theorem d_M_setBit_8 : decode (rm_code mM_setBit) 8 = .ok (.iconst 3, 1) := by decide +kernel
theorem d_M_setBit_9 : decode (rm_code mM_setBit) 9 = .ok (.ishr, 1) := by decide +kernel
theorem d_M_setBit_10 : decode (rm_code mM_setBit) 10 = .ok (.iadd, 1) := by decide +kernel
theorem d_M_setBit_11 : decode (rm_code mM_setBit) 11 = .ok (.istore 4, 2) := by decide +kernel
theorem d_M_setBit_13 : decode (rm_code mM_setBit) 13 = .ok (.sipush (128), 3) := by decide +kernel
theorem d_M_setBit_16 : decode (rm_code mM_setBit) 16 = .ok (.iload_n 2, 1) := by decide +kernel
theorem d_M_setBit_17 : decode (rm_code mM_setBit) 17 = .ok (.bipush (7), 2) := by decide +kernel
theorem d_M_setBit_19 : decode (rm_code mM_setBit) 19 = .ok (.iand, 1) := by decide +kernel
theorem d_M_setBit_20 : decode (rm_code mM_setBit) 20 = .ok (.ishr, 1) := by decide +kernel
theorem d_M_setBit_21 : decode (rm_code mM_setBit) 21 = .ok (.istore 5, 2) := by decide +kernel
theorem d_M_setBit_23 : decode (rm_code mM_setBit) 23 = .ok (.aload_n 0, 1) := by decide +kernel
theorem d_M_setBit_24 : decode (rm_code mM_setBit) 24 = .ok (.getfield 14, 3) := by decide +kernel
theorem d_M_setBit_27 : decode (rm_code mM_setBit) 27 = .ok (.iload 4, 2) := by decide +kernel
theorem d_M_setBit_29 : decode (rm_code mM_setBit) 29 = .ok (.iload_n 3, 1) := by decide +kernel
theorem d_M_setBit_30 : decode (rm_code mM_setBit) 30 = .ok (.iconst 1, 1) := by decide +kernel
theorem d_M_setBit_31 : decode (rm_code mM_setBit) 31 = .ok (.if_icmp .ne (16), 3) := by decide +kernel
theorem d_M_setBit_34 : decode (rm_code mM_setBit) 34 = .ok (.aload_n 0, 1) := by decide +kernel
theorem d_M_setBit_35 : decode (rm_code mM_setBit) 35 = .ok (.getfield 14, 3) := by decide +kernel
theorem d_M_setBit_38 : decode (rm_code mM_setBit) 38 = .ok (.iload 4, 2) := by decide +kernel
theorem d_M_setBit_40 : decode (rm_code mM_setBit) 40 = .ok (.baload, 1) := by decide +kernel
theorem d_M_setBit_41 : decode (rm_code mM_setBit) 41 = .ok (.iload 5, 2) := by decide +kernel
theorem d_M_setBit_43 : decode (rm_code mM_setBit) 43 = .ok (.ior, 1) := by decide +kernel
theorem d_M_setBit_44 : decode (rm_code mM_setBit) 44 = .ok (.goto (15), 3) := by decide +kernel
theorem d_M_setBit_47 : decode (rm_code mM_setBit) 47 = .ok (.aload_n 0, 1) := by decide +kernel
theorem d_M_setBit_48 : decode (rm_code mM_setBit) 48 = .ok (.getfield 14, 3) := by decide +kernel
theorem d_M_setBit_51 : decode (rm_code mM_setBit) 51 = .ok (.iload 4, 2) := by decide +kernel
theorem d_M_setBit_53 : decode (rm_code mM_setBit) 53 = .ok (.baload, 1) := by decide +kernel
theorem d_M_setBit_54 : decode (rm_code mM_setBit) 54 = .ok (.iload 5, 2) := by decide +kernel
theorem d_M_setBit_56 : decode (rm_code mM_setBit) 56 = .ok (.iconst (-1), 1) := by decide +kernel
theorem d_M_setBit_57 : decode (rm_code mM_setBit) 57 = .ok (.ixor, 1) := by decide +kernel
theorem d_M_setBit_58 : decode (rm_code mM_setBit) 58 = .ok (.iand, 1) := by decide +kernel
theorem d_M_setBit_59 : decode (rm_code mM_setBit) 59 = .ok (.i2b, 1) := by decide +kernel
theorem d_M_setBit_60 : decode (rm_code mM_setBit) 60 = .ok (.bastore, 1) := by decide +kernel
theorem d_M_setBit_61 : decode (rm_code mM_setBit) 61 = .ok (.return_, 1) := by decide +kernel
theorem p_M_setBit_0 {S : rz_S} {K : rz_S → Prop} {a1 : Int32} {a2 : Int32} {a3 : Int32} (w : ((a3 = 1 → rx_in ((1000 * (a1 - 1)) + (a2 >>> ((3 : Int32) &&& 31))) 12000 = true ∧ K (rz_fA S 117 (upd (S.1 117) (((1000 * (a1 - 1)) + (a2 >>> ((3 : Int32) &&& 31))).toNatClampNeg) (vp_nar .byte (((S.1 117 (((1000 * (a1 - 1)) + (a2 >>> ((3 : Int32) &&& 31))).toNatClampNeg)) ||| (128 >>> ((a2 &&& 7) &&& 31))).toInt8.toInt32))))) ∧ (¬ a3 = 1 → rx_in ((1000 * (a1 - 1)) + (a2 >>> ((3 : Int32) &&& 31))) 12000 = true ∧ K (rz_fA S 117 (upd (S.1 117) (((1000 * (a1 - 1)) + (a2 >>> ((3 : Int32) &&& 31))).toNatClampNeg) (vp_nar .byte (((S.1 117 (((1000 * (a1 - 1)) + (a2 >>> ((3 : Int32) &&& 31))).toNatClampNeg)) &&& ((128 >>> ((a2 &&& 7) &&& 31)) ^^^ (-1))).toInt8.toInt32))))))) : rz mM_setBit 0 [(0, .ref 116), (1, .int a1), (2, .int a2), (3, .int a3)] [] S (rz_v K) := by
  refine rz_sipush (v := 1000) d_M_setBit_0 (by decide) ?_
  refine rz_pure (pc' := 4) d_M_setBit_3 rfl ?_
  refine rz_iconst (v := 1) d_M_setBit_4 (by decide) ?_
  refine rz_isub d_M_setBit_5 ?_
  refine rz_imul d_M_setBit_6 ?_
  refine rz_pure (pc' := 8) d_M_setBit_7 rfl ?_
  refine rz_iconst (v := 3) d_M_setBit_8 (by decide) ?_
  refine rz_ishr d_M_setBit_9 ?_
  refine rz_iadd d_M_setBit_10 ?_
  refine rz_pure (pc' := 13) (l' := [(4, .int ((1000 * (a1 - 1)) + (a2 >>> ((3 : Int32) &&& 31)))), (0, .ref 116), (1, .int a1), (2, .int a2), (3, .int a3)]) d_M_setBit_11 rfl ?_
  refine rz_sipush (v := 128) d_M_setBit_13 (by decide) ?_
  refine rz_pure (pc' := 17) d_M_setBit_16 rfl ?_
  refine rz_bipush (v := 7) d_M_setBit_17 (by decide) ?_
  refine rz_iand d_M_setBit_19 ?_
  refine rz_ishr d_M_setBit_20 ?_
  refine rz_pure (pc' := 23) (l' := [(5, .int (128 >>> ((a2 &&& 7) &&& 31))), (4, .int ((1000 * (a1 - 1)) + (a2 >>> ((3 : Int32) &&& 31)))), (0, .ref 116), (1, .int a1), (2, .int a2), (3, .int a3)]) d_M_setBit_21 rfl ?_
  refine rz_pure (pc' := 24) d_M_setBit_23 rfl ?_
  refine rz_getr d_M_setBit_24 f_12_14 rfl rfl ?_
  refine rz_pure (pc' := 29) d_M_setBit_27 rfl ?_
  refine rz_pure (pc' := 30) d_M_setBit_29 rfl ?_
  refine rz_iconst (v := 1) d_M_setBit_30 (by decide) ?_
  refine rz_icmpne (tgt := 47) d_M_setBit_31 rfl (fun b1 => ?_) (fun b1 => ?_)
  · skip
    refine rz_pure (pc' := 48) d_M_setBit_47 rfl ?_
    refine rz_getr d_M_setBit_48 f_12_14 rfl rfl ?_
    refine rz_pure (pc' := 53) d_M_setBit_51 rfl ?_
    refine rz_baldv (F := S.1 117) (i := ((1000 * (a1 - 1)) + (a2 >>> ((3 : Int32) &&& 31))).toNatClampNeg) d_M_setBit_53 rfl (by decide) (w.2 b1).1 rfl rfl ?_
    refine rz_pure (pc' := 56) d_M_setBit_54 rfl ?_
    refine rz_iconst (v := -1) d_M_setBit_56 (by decide) ?_
    refine rz_ixor d_M_setBit_57 ?_
    refine rz_iand d_M_setBit_58 ?_
    refine rz_i2b d_M_setBit_59 ?_
    refine rz_bastv (F := S.1 117) (i := ((1000 * (a1 - 1)) + (a2 >>> ((3 : Int32) &&& 31))).toNatClampNeg) d_M_setBit_60 rfl (w.2 b1).1 rfl rfl ?_
    exact rz_vretv d_M_setBit_61 rfl (w.2 b1).2
  · skip
    refine rz_pure (pc' := 35) d_M_setBit_34 rfl ?_
    refine rz_getr d_M_setBit_35 f_12_14 rfl rfl ?_
    refine rz_pure (pc' := 40) d_M_setBit_38 rfl ?_
    refine rz_baldv (F := S.1 117) (i := ((1000 * (a1 - 1)) + (a2 >>> ((3 : Int32) &&& 31))).toNatClampNeg) d_M_setBit_40 rfl (by decide) (w.1 b1).1 rfl rfl ?_
    refine rz_pure (pc' := 43) d_M_setBit_41 rfl ?_
    refine rz_ior d_M_setBit_43 ?_
    refine rz_pure (pc' := 59) d_M_setBit_44 rfl ?_
    refine rz_i2b d_M_setBit_59 ?_
    refine rz_bastv (F := S.1 117) (i := ((1000 * (a1 - 1)) + (a2 >>> ((3 : Int32) &&& 31))).toNatClampNeg) d_M_setBit_60 rfl (w.1 b1).1 rfl rfl ?_
    exact rz_vretv d_M_setBit_61 rfl (w.1 b1).2
theorem d_M_along_0 : decode (rm_code mM_along) 0 = .ok (.aload_n 0, 1) := by decide +kernel
theorem d_M_along_1 : decode (rm_code mM_along) 1 = .ok (.iload_n 1, 1) := by decide +kernel
theorem d_M_along_2 : decode (rm_code mM_along) 2 = .ok (.putfield 18, 3) := by decide +kernel
theorem d_M_along_5 : decode (rm_code mM_along) 5 = .ok (.aload_n 0, 1) := by decide +kernel
theorem d_M_along_6 : decode (rm_code mM_along) 6 = .ok (.bipush (8), 2) := by decide +kernel
theorem d_M_along_8 : decode (rm_code mM_along) 8 = .ok (.iload_n 1, 1) := by decide +kernel
theorem d_M_along_9 : decode (rm_code mM_along) 9 = .ok (.invokestatic 21, 3) := by decide +kernel
theorem d_M_along_12 : decode (rm_code mM_along) 12 = .ok (.imul, 1) := by decide +kernel
theorem d_M_along_13 : decode (rm_code mM_along) 13 = .ok (.putfield 24, 3) := by decide +kernel
theorem d_M_along_16 : decode (rm_code mM_along) 16 = .ok (.aload_n 0, 1) := by decide +kernel
theorem d_M_along_17 : decode (rm_code mM_along) 17 = .ok (.iload_n 2, 1) := by decide +kernel
theorem d_M_along_18 : decode (rm_code mM_along) 18 = .ok (.putfield 27, 3) := by decide +kernel
theorem d_M_along_21 : decode (rm_code mM_along) 21 = .ok (.aload_n 0, 1) := by decide +kernel
theorem d_M_along_22 : decode (rm_code mM_along) 22 = .ok (.iload_n 3, 1) := by decide +kernel
theorem d_M_along_23 : decode (rm_code mM_along) 23 = .ok (.putfield 30, 3) := by decide +kernel
theorem d_M_along_26 : decode (rm_code mM_along) 26 = .ok (.aload_n 0, 1) := by decide +kernel
theorem d_M_along_27 : decode (rm_code mM_along) 27 = .ok (.iload_n 3, 1) := by decide +kernel
theorem d_M_along_28 : decode (rm_code mM_along) 28 = .ok (.bipush (10), 2) := by decide +kernel
theorem d_M_along_30 : decode (rm_code mM_along) 30 = .ok (.if_icmp .lt (7), 3) := by decide +kernel
theorem d_M_along_33 : decode (rm_code mM_along) 33 = .ok (.iconst 1, 1) := by decide +kernel
theorem d_M_along_34 : decode (rm_code mM_along) 34 = .ok (.goto (4), 3) := by decide +kernel
theorem d_M_along_37 : decode (rm_code mM_along) 37 = .ok (.iconst 0, 1) := by decide +kernel
theorem d_M_along_38 : decode (rm_code mM_along) 38 = .ok (.putfield 33, 3) := by decide +kernel
theorem d_M_along_41 : decode (rm_code mM_along) 41 = .ok (.aload_n 0, 1) := by decide +kernel
theorem d_M_along_42 : decode (rm_code mM_along) 42 = .ok (.iconst 0, 1) := by decide +kernel
theorem d_M_along_43 : decode (rm_code mM_along) 43 = .ok (.putfield 36, 3) := by decide +kernel
theorem d_M_along_46 : decode (rm_code mM_along) 46 = .ok (.aload_n 0, 1) := by decide +kernel
theorem d_M_along_47 : decode (rm_code mM_along) 47 = .ok (.iconst 0, 1) := by decide +kernel
theorem d_M_along_48 : decode (rm_code mM_along) 48 = .ok (.putfield 39, 3) := by decide +kernel
theorem d_M_along_51 : decode (rm_code mM_along) 51 = .ok (.aload_n 0, 1) := by decide +kernel
theorem d_M_along_52 : decode (rm_code mM_along) 52 = .ok (.iconst 0, 1) := by decide +kernel
theorem d_M_along_53 : decode (rm_code mM_along) 53 = .ok (.putfield 42, 3) := by decide +kernel
theorem d_M_along_56 : decode (rm_code mM_along) 56 = .ok (.return_, 1) := by decide +kernel
theorem p_M_along_0 {S : rz_S} {K : rz_S → Prop} {a1 : Int32} {a2 : Int32} {a3 : Int32} (w : rz_ev mM_bytesOf [.int a1] (rz_uI S 116 6 a1) (rz_i (fun xq1 Sq1 => ((a3 < 10 → rz mM_along 38 [(0, .ref 116)] [.int 0, .ref 116] (rz_uI (rz_uI (rz_uI Sq1 116 7 (8 * xq1)) 116 8 a2) 116 9 a3) (rz_v K)) ∧ (¬ a3 < 10 → rz mM_along 38 [(0, .ref 116)] [.int 1, .ref 116] (rz_uI (rz_uI (rz_uI Sq1 116 7 (8 * xq1)) 116 8 a2) 116 9 a3) (rz_v K)))))) : rz mM_along 0 [(0, .ref 116), (1, .int a1), (2, .int a2), (3, .int a3)] [] S (rz_v K) := by
  refine rz_pure (pc' := 1) d_M_along_0 rfl ?_
  refine rz_pure (pc' := 2) d_M_along_1 rfl ?_
  refine rz_puti d_M_along_2 f_12_18 rfl rfl rfl ?_
  refine rz_pure (pc' := 6) d_M_along_5 rfl ?_
  refine rz_bipush (v := 8) d_M_along_6 (by decide) ?_
  refine rz_pure (pc' := 9) d_M_along_8 rfl ?_
  refine rz_callSi (t := [.int a1]) d_M_along_9 rfl w_12_21 rfl rfl w (fun xq1 Sq1 q1 => ?_)
  refine rz_imul d_M_along_12 ?_
  refine rz_puti d_M_along_13 f_12_24 rfl rfl rfl ?_
  refine rz_pure (pc' := 17) d_M_along_16 rfl ?_
  refine rz_pure (pc' := 18) d_M_along_17 rfl ?_
  refine rz_puti d_M_along_18 f_12_27 rfl rfl rfl ?_
  refine rz_pure (pc' := 22) d_M_along_21 rfl ?_
  refine rz_pure (pc' := 23) d_M_along_22 rfl ?_
  refine rz_puti d_M_along_23 f_12_30 rfl rfl rfl ?_
  refine rz_pure (pc' := 27) d_M_along_26 rfl ?_
  refine rz_pure (pc' := 28) d_M_along_27 rfl ?_
  refine rz_bipush (v := 10) d_M_along_28 (by decide) ?_
  refine rz_icmplt (tgt := 37) d_M_along_30 rfl (fun b2 => ?_) (fun b2 => ?_)
  · skip
    refine rz_iconst (v := 0) d_M_along_37 (by decide) ?_
    exact rz_pick (ks := [0]) (l := [(0, .ref 116)]) rfl rfl (by decide) rfl (q1.1 b2)
  · skip
    refine rz_iconst (v := 1) d_M_along_33 (by decide) ?_
    refine rz_pure (pc' := 38) d_M_along_34 rfl ?_
    exact rz_pick (ks := [0]) (l := [(0, .ref 116)]) rfl rfl (by decide) rfl (q1.2 b2)
theorem p_M_along_38 {S : rz_S} {K : rz_S → Prop} {s0 : Int32} (w : K (rz_uI (rz_uI (rz_uI (rz_uI S 116 10 s0) 116 11 0) 116 12 0) 116 13 0)) : rz mM_along 38 [(0, .ref 116)] [.int s0, .ref 116] S (rz_v K) := by
  refine rz_puti d_M_along_38 f_12_33 rfl rfl rfl ?_
  refine rz_pure (pc' := 42) d_M_along_41 rfl ?_
  refine rz_iconst (v := 0) d_M_along_42 (by decide) ?_
  refine rz_puti d_M_along_43 f_12_36 rfl rfl rfl ?_
  refine rz_pure (pc' := 47) d_M_along_46 rfl ?_
  refine rz_iconst (v := 0) d_M_along_47 (by decide) ?_
  refine rz_puti d_M_along_48 f_12_39 rfl rfl rfl ?_
  refine rz_pure (pc' := 52) d_M_along_51 rfl ?_
  refine rz_iconst (v := 0) d_M_along_52 (by decide) ?_
  refine rz_puti d_M_along_53 f_12_42 rfl rfl (by decide) ?_
  exact rz_vretv d_M_along_56 rfl w
theorem d_M_goes_0 : decode (rm_code mM_goes) 0 = .ok (.aload_n 0, 1) := by decide +kernel
theorem d_M_goes_1 : decode (rm_code mM_goes) 1 = .ok (.aload_n 0, 1) := by decide +kernel
theorem d_M_goes_2 : decode (rm_code mM_goes) 2 = .ok (.getfield 18, 3) := by decide +kernel
theorem d_M_goes_5 : decode (rm_code mM_goes) 5 = .ok (.aload_n 0, 1) := by decide +kernel
theorem d_M_goes_6 : decode (rm_code mM_goes) 6 = .ok (.getfield 27, 3) := by decide +kernel
theorem d_M_goes_9 : decode (rm_code mM_goes) 9 = .ok (.invokevirtual 46, 3) := by decide +kernel
theorem d_M_goes_12 : decode (rm_code mM_goes) 12 = .ok (.istore_n 1, 1) := by decide +kernel
theorem d_M_goes_13 : decode (rm_code mM_goes) 13 = .ok (.aload_n 0, 1) := by decide +kernel
theorem d_M_goes_14 : decode (rm_code mM_goes) 14 = .ok (.aload_n 0, 1) := by decide +kernel
theorem d_M_goes_15 : decode (rm_code mM_goes) 15 = .ok (.getfield 27, 3) := by decide +kernel
theorem d_M_goes_18 : decode (rm_code mM_goes) 18 = .ok (.iconst 1, 1) := by decide +kernel
theorem d_M_goes_19 : decode (rm_code mM_goes) 19 = .ok (.iadd, 1) := by decide +kernel
theorem d_M_goes_20 : decode (rm_code mM_goes) 20 = .ok (.aload_n 0, 1) := by decide +kernel
theorem d_M_goes_21 : decode (rm_code mM_goes) 21 = .ok (.getfield 24, 3) := by decide +kernel
theorem d_M_goes_24 : decode (rm_code mM_goes) 24 = .ok (.if_icmp .ne (7), 3) := by decide +kernel
theorem d_M_goes_27 : decode (rm_code mM_goes) 27 = .ok (.iconst 0, 1) := by decide +kernel
theorem d_M_goes_28 : decode (rm_code mM_goes) 28 = .ok (.goto (9), 3) := by decide +kernel
theorem d_M_goes_31 : decode (rm_code mM_goes) 31 = .ok (.aload_n 0, 1) := by decide +kernel
theorem d_M_goes_32 : decode (rm_code mM_goes) 32 = .ok (.getfield 27, 3) := by decide +kernel
theorem d_M_goes_35 : decode (rm_code mM_goes) 35 = .ok (.iconst 1, 1) := by decide +kernel
theorem d_M_goes_36 : decode (rm_code mM_goes) 36 = .ok (.iadd, 1) := by decide +kernel
theorem d_M_goes_37 : decode (rm_code mM_goes) 37 = .ok (.putfield 27, 3) := by decide +kernel
theorem d_M_goes_40 : decode (rm_code mM_goes) 40 = .ok (.iload_n 1, 1) := by decide +kernel
theorem d_M_goes_41 : decode (rm_code mM_goes) 41 = .ok (.iconst 1, 1) := by decide +kernel
theorem d_M_goes_42 : decode (rm_code mM_goes) 42 = .ok (.if_icmp .ne (48), 3) := by decide +kernel
theorem d_M_goes_45 : decode (rm_code mM_goes) 45 = .ok (.aload_n 0, 1) := by decide +kernel
theorem d_M_goes_46 : decode (rm_code mM_goes) 46 = .ok (.getfield 30, 3) := by decide +kernel
theorem d_M_goes_49 : decode (rm_code mM_goes) 49 = .ok (.bipush (10), 2) := by decide +kernel
theorem d_M_goes_51 : decode (rm_code mM_goes) 51 = .ok (.if_icmp .ge (13), 3) := by decide +kernel
theorem d_M_goes_54 : decode (rm_code mM_goes) 54 = .ok (.aload_n 0, 1) := by decide +kernel
theorem d_M_goes_55 : decode (rm_code mM_goes) 55 = .ok (.aload_n 0, 1) := by decide +kernel
theorem d_M_goes_56 : decode (rm_code mM_goes) 56 = .ok (.getfield 30, 3) := by decide +kernel
theorem d_M_goes_59 : decode (rm_code mM_goes) 59 = .ok (.iconst 1, 1) := by decide +kernel
theorem d_M_goes_60 : decode (rm_code mM_goes) 60 = .ok (.iadd, 1) := by decide +kernel
theorem d_M_goes_61 : decode (rm_code mM_goes) 61 = .ok (.putfield 30, 3) := by decide +kernel
theorem d_M_goes_64 : decode (rm_code mM_goes) 64 = .ok (.aload_n 0, 1) := by decide +kernel
theorem d_M_goes_65 : decode (rm_code mM_goes) 65 = .ok (.getfield 30, 3) := by decide +kernel
theorem d_M_goes_68 : decode (rm_code mM_goes) 68 = .ok (.bipush (10), 2) := by decide +kernel
theorem d_M_goes_70 : decode (rm_code mM_goes) 70 = .ok (.if_icmp .ne (53), 3) := by decide +kernel
theorem d_M_goes_73 : decode (rm_code mM_goes) 73 = .ok (.aload_n 0, 1) := by decide +kernel
theorem d_M_goes_74 : decode (rm_code mM_goes) 74 = .ok (.iconst 1, 1) := by decide +kernel
theorem d_M_goes_75 : decode (rm_code mM_goes) 75 = .ok (.putfield 33, 3) := by decide +kernel
theorem d_M_goes_78 : decode (rm_code mM_goes) 78 = .ok (.aload_n 0, 1) := by decide +kernel
theorem d_M_goes_79 : decode (rm_code mM_goes) 79 = .ok (.iconst 0, 1) := by decide +kernel
theorem d_M_goes_80 : decode (rm_code mM_goes) 80 = .ok (.putfield 36, 3) := by decide +kernel
theorem d_M_goes_83 : decode (rm_code mM_goes) 83 = .ok (.aload_n 0, 1) := by decide +kernel
theorem d_M_goes_84 : decode (rm_code mM_goes) 84 = .ok (.iconst 0, 1) := by decide +kernel
theorem d_M_goes_85 : decode (rm_code mM_goes) 85 = .ok (.putfield 39, 3) := by decide +kernel
theorem d_M_goes_88 : decode (rm_code mM_goes) 88 = .ok (.iconst 0, 1) := by decide +kernel
theorem d_M_goes_89 : decode (rm_code mM_goes) 89 = .ok (.ireturn, 1) := by decide +kernel
theorem d_M_goes_90 : decode (rm_code mM_goes) 90 = .ok (.aload_n 0, 1) := by decide +kernel
theorem d_M_goes_91 : decode (rm_code mM_goes) 91 = .ok (.iconst 0, 1) := by decide +kernel
theorem d_M_goes_92 : decode (rm_code mM_goes) 92 = .ok (.putfield 30, 3) := by decide +kernel
theorem d_M_goes_95 : decode (rm_code mM_goes) 95 = .ok (.aload_n 0, 1) := by decide +kernel
theorem d_M_goes_96 : decode (rm_code mM_goes) 96 = .ok (.getfield 33, 3) := by decide +kernel
theorem d_M_goes_99 : decode (rm_code mM_goes) 99 = .ok (.iconst 1, 1) := by decide +kernel
theorem d_M_goes_100 : decode (rm_code mM_goes) 100 = .ok (.if_icmp .ne (23), 3) := by decide +kernel
theorem d_M_goes_103 : decode (rm_code mM_goes) 103 = .ok (.aload_n 0, 1) := by decide +kernel
theorem d_M_goes_104 : decode (rm_code mM_goes) 104 = .ok (.iconst 2, 1) := by decide +kernel
theorem d_M_goes_105 : decode (rm_code mM_goes) 105 = .ok (.putfield 33, 3) := by decide +kernel
theorem d_M_goes_108 : decode (rm_code mM_goes) 108 = .ok (.aload_n 0, 1) := by decide +kernel
theorem d_M_goes_109 : decode (rm_code mM_goes) 109 = .ok (.iconst 0, 1) := by decide +kernel
theorem d_M_goes_110 : decode (rm_code mM_goes) 110 = .ok (.putfield 36, 3) := by decide +kernel
theorem d_M_goes_113 : decode (rm_code mM_goes) 113 = .ok (.aload_n 0, 1) := by decide +kernel
theorem d_M_goes_114 : decode (rm_code mM_goes) 114 = .ok (.iconst 0, 1) := by decide +kernel
theorem d_M_goes_115 : decode (rm_code mM_goes) 115 = .ok (.putfield 39, 3) := by decide +kernel
theorem d_M_goes_118 : decode (rm_code mM_goes) 118 = .ok (.aload_n 0, 1) := by decide +kernel
theorem d_M_goes_119 : decode (rm_code mM_goes) 119 = .ok (.iconst 1, 1) := by decide +kernel
theorem d_M_goes_120 : decode (rm_code mM_goes) 120 = .ok (.putfield 42, 3) := by decide +kernel
theorem d_M_goes_123 : decode (rm_code mM_goes) 123 = .ok (.aload_n 0, 1) := by decide +kernel
theorem d_M_goes_124 : decode (rm_code mM_goes) 124 = .ok (.getfield 33, 3) := by decide +kernel
theorem d_M_goes_127 : decode (rm_code mM_goes) 127 = .ok (.iconst 2, 1) := by decide +kernel
theorem d_M_goes_128 : decode (rm_code mM_goes) 128 = .ok (.if_icmp .eq (5), 3) := by decide +kernel
theorem d_M_goes_131 : decode (rm_code mM_goes) 131 = .ok (.iconst 0, 1) := by decide +kernel
theorem d_M_goes_132 : decode (rm_code mM_goes) 132 = .ok (.ireturn, 1) := by decide +kernel
theorem d_M_goes_133 : decode (rm_code mM_goes) 133 = .ok (.aload_n 0, 1) := by decide +kernel
theorem d_M_goes_134 : decode (rm_code mM_goes) 134 = .ok (.aload_n 0, 1) := by decide +kernel
theorem d_M_goes_135 : decode (rm_code mM_goes) 135 = .ok (.getfield 39, 3) := by decide +kernel
theorem d_M_goes_138 : decode (rm_code mM_goes) 138 = .ok (.iconst 1, 1) := by decide +kernel
theorem d_M_goes_139 : decode (rm_code mM_goes) 139 = .ok (.ishl, 1) := by decide +kernel
theorem d_M_goes_140 : decode (rm_code mM_goes) 140 = .ok (.iload_n 1, 1) := by decide +kernel
theorem d_M_goes_141 : decode (rm_code mM_goes) 141 = .ok (.ior, 1) := by decide +kernel
theorem d_M_goes_142 : decode (rm_code mM_goes) 142 = .ok (.putfield 39, 3) := by decide +kernel
theorem d_M_goes_145 : decode (rm_code mM_goes) 145 = .ok (.aload_n 0, 1) := by decide +kernel
theorem d_M_goes_146 : decode (rm_code mM_goes) 146 = .ok (.aload_n 0, 1) := by decide +kernel
theorem d_M_goes_147 : decode (rm_code mM_goes) 147 = .ok (.getfield 36, 3) := by decide +kernel
theorem d_M_goes_150 : decode (rm_code mM_goes) 150 = .ok (.iconst 1, 1) := by decide +kernel
theorem d_M_goes_151 : decode (rm_code mM_goes) 151 = .ok (.iadd, 1) := by decide +kernel
theorem d_M_goes_152 : decode (rm_code mM_goes) 152 = .ok (.putfield 36, 3) := by decide +kernel
theorem d_M_goes_155 : decode (rm_code mM_goes) 155 = .ok (.aload_n 0, 1) := by decide +kernel
theorem d_M_goes_156 : decode (rm_code mM_goes) 156 = .ok (.getfield 36, 3) := by decide +kernel
theorem d_M_goes_159 : decode (rm_code mM_goes) 159 = .ok (.bipush (8), 2) := by decide +kernel
theorem d_M_goes_161 : decode (rm_code mM_goes) 161 = .ok (.if_icmp .ge (5), 3) := by decide +kernel
theorem d_M_goes_164 : decode (rm_code mM_goes) 164 = .ok (.iconst 0, 1) := by decide +kernel
theorem d_M_goes_165 : decode (rm_code mM_goes) 165 = .ok (.ireturn, 1) := by decide +kernel
theorem d_M_goes_166 : decode (rm_code mM_goes) 166 = .ok (.aload_n 0, 1) := by decide +kernel
theorem d_M_goes_167 : decode (rm_code mM_goes) 167 = .ok (.aload_n 0, 1) := by decide +kernel
theorem d_M_goes_168 : decode (rm_code mM_goes) 168 = .ok (.getfield 39, 3) := by decide +kernel
theorem d_M_goes_171 : decode (rm_code mM_goes) 171 = .ok (.putfield 50, 3) := by decide +kernel
theorem d_M_goes_174 : decode (rm_code mM_goes) 174 = .ok (.aload_n 0, 1) := by decide +kernel
theorem d_M_goes_175 : decode (rm_code mM_goes) 175 = .ok (.aload_n 0, 1) := by decide +kernel
theorem d_M_goes_176 : decode (rm_code mM_goes) 176 = .ok (.getfield 42, 3) := by decide +kernel
theorem d_M_goes_179 : decode (rm_code mM_goes) 179 = .ok (.putfield 53, 3) := by decide +kernel
theorem d_M_goes_182 : decode (rm_code mM_goes) 182 = .ok (.aload_n 0, 1) := by decide +kernel
theorem d_M_goes_183 : decode (rm_code mM_goes) 183 = .ok (.iconst 0, 1) := by decide +kernel
theorem d_M_goes_184 : decode (rm_code mM_goes) 184 = .ok (.putfield 42, 3) := by decide +kernel
theorem d_M_goes_187 : decode (rm_code mM_goes) 187 = .ok (.aload_n 0, 1) := by decide +kernel
theorem d_M_goes_188 : decode (rm_code mM_goes) 188 = .ok (.iconst 0, 1) := by decide +kernel
theorem d_M_goes_189 : decode (rm_code mM_goes) 189 = .ok (.putfield 36, 3) := by decide +kernel
theorem d_M_goes_192 : decode (rm_code mM_goes) 192 = .ok (.aload_n 0, 1) := by decide +kernel
theorem d_M_goes_193 : decode (rm_code mM_goes) 193 = .ok (.iconst 0, 1) := by decide +kernel
theorem d_M_goes_194 : decode (rm_code mM_goes) 194 = .ok (.putfield 39, 3) := by decide +kernel
theorem d_M_goes_197 : decode (rm_code mM_goes) 197 = .ok (.iconst 1, 1) := by decide +kernel
theorem d_M_goes_198 : decode (rm_code mM_goes) 198 = .ok (.ireturn, 1) := by decide +kernel
theorem p_M_goes_0 {S : rz_S} {K : Int32 → rz_S → Prop} (w : rz_ev mM_bitAt [.ref 116, .int (S.2 116 6), .int (S.2 116 8)] S (rz_i (fun xq1 Sq1 => (((Sq1.2 116 8) + 1 = Sq1.2 116 7 → rz mM_goes 37 [(0, .ref 116), (1, .int xq1)] [.int 0, .ref 116] Sq1 (rz_i K)) ∧ (¬ (Sq1.2 116 8) + 1 = Sq1.2 116 7 → rz mM_goes 37 [(0, .ref 116), (1, .int xq1)] [.int ((Sq1.2 116 8) + 1), .ref 116] Sq1 (rz_i K)))))) : rz mM_goes 0 [(0, .ref 116)] [] S (rz_i K) := by
  refine rz_pure (pc' := 1) d_M_goes_0 rfl ?_
  refine rz_pure (pc' := 2) d_M_goes_1 rfl ?_
  refine rz_getiv (v := S.2 116 6) d_M_goes_2 f_12_18 rfl rfl rfl ?_
  refine rz_pure (pc' := 6) d_M_goes_5 rfl ?_
  refine rz_getiv (v := S.2 116 8) d_M_goes_6 f_12_27 rfl rfl rfl ?_
  refine rz_callVi (t := [.int (S.2 116 8), .int (S.2 116 6)]) d_M_goes_9 w_12_46 rfl rfl rfl w (fun xq1 Sq1 q1 => ?_)
  refine rz_pure (pc' := 13) (l' := [(1, .int xq1), (0, .ref 116)]) d_M_goes_12 rfl ?_
  refine rz_pure (pc' := 14) d_M_goes_13 rfl ?_
  refine rz_pure (pc' := 15) d_M_goes_14 rfl ?_
  refine rz_getiv (v := Sq1.2 116 8) d_M_goes_15 f_12_27 rfl rfl rfl ?_
  refine rz_iconst (v := 1) d_M_goes_18 (by decide) ?_
  refine rz_iadd d_M_goes_19 ?_
  refine rz_pure (pc' := 21) d_M_goes_20 rfl ?_
  refine rz_getiv (v := Sq1.2 116 7) d_M_goes_21 f_12_24 rfl rfl rfl ?_
  refine rz_icmpne (tgt := 31) d_M_goes_24 rfl (fun b2 => ?_) (fun b2 => ?_)
  · skip
    refine rz_pure (pc' := 32) d_M_goes_31 rfl ?_
    refine rz_getiv (v := Sq1.2 116 8) d_M_goes_32 f_12_27 rfl rfl rfl ?_
    refine rz_iconst (v := 1) d_M_goes_35 (by decide) ?_
    refine rz_iadd d_M_goes_36 ?_
    exact rz_pick (ks := [0, 1]) (l := [(0, .ref 116), (1, .int xq1)]) rfl rfl (by decide) rfl (q1.2 b2)
  · skip
    refine rz_iconst (v := 0) d_M_goes_27 (by decide) ?_
    refine rz_pure (pc' := 37) d_M_goes_28 rfl ?_
    exact rz_pick (ks := [0, 1]) (l := [(0, .ref 116), (1, .int xq1)]) rfl rfl (by decide) rfl (q1.1 b2)
theorem p_M_goes_37 {S : rz_S} {K : Int32 → rz_S → Prop} {a1 : Int32} {s0 : Int32} (w : ((a1 = 1 → ((10 ≤ S.2 116 9 → rz mM_goes 64 [(0, .ref 116), (1, .int a1)] [] (rz_uI S 116 8 s0) (rz_i K)) ∧ (¬ 10 ≤ S.2 116 9 → rz mM_goes 64 [(0, .ref 116), (1, .int a1)] [] (rz_uI (rz_uI S 116 8 s0) 116 9 ((S.2 116 9) + 1)) (rz_i K)))) ∧ (¬ a1 = 1 → ((S.2 116 10 = 1 → rz mM_goes 123 [(0, .ref 116), (1, .int a1)] [] (rz_uI (rz_uI (rz_uI (rz_uI (rz_uI (rz_uI S 116 8 s0) 116 9 0) 116 10 2) 116 11 0) 116 12 0) 116 13 1) (rz_i K)) ∧ (¬ S.2 116 10 = 1 → rz mM_goes 123 [(0, .ref 116), (1, .int a1)] [] (rz_uI (rz_uI S 116 8 s0) 116 9 0) (rz_i K)))))) : rz mM_goes 37 [(0, .ref 116), (1, .int a1)] [.int s0, .ref 116] S (rz_i K) := by
  refine rz_puti d_M_goes_37 f_12_27 rfl rfl rfl ?_
  refine rz_pure (pc' := 41) d_M_goes_40 rfl ?_
  refine rz_iconst (v := 1) d_M_goes_41 (by decide) ?_
  refine rz_icmpne (tgt := 90) d_M_goes_42 rfl (fun b1 => ?_) (fun b1 => ?_)
  · skip
    refine rz_pure (pc' := 91) d_M_goes_90 rfl ?_
    refine rz_iconst (v := 0) d_M_goes_91 (by decide) ?_
    refine rz_puti d_M_goes_92 f_12_30 rfl rfl rfl ?_
    refine rz_pure (pc' := 96) d_M_goes_95 rfl ?_
    refine rz_getiv (v := S.2 116 10) d_M_goes_96 f_12_33 rfl rfl ((rz_uI_n (fun h => absurd h.2 (by decide))).trans ((rz_uI_n (fun h => absurd h.2 (by decide))).trans rfl)) ?_
    refine rz_iconst (v := 1) d_M_goes_99 (by decide) ?_
    refine rz_icmpne (tgt := 123) d_M_goes_100 rfl (fun b2 => ?_) (fun b2 => ?_)
    · skip
      exact rz_pick (ks := [0, 1]) (l := [(0, .ref 116), (1, .int a1)]) rfl rfl (by decide) rfl ((w.2 b1).2 b2)
    · skip
      refine rz_pure (pc' := 104) d_M_goes_103 rfl ?_
      refine rz_iconst (v := 2) d_M_goes_104 (by decide) ?_
      refine rz_puti d_M_goes_105 f_12_33 rfl rfl rfl ?_
      refine rz_pure (pc' := 109) d_M_goes_108 rfl ?_
      refine rz_iconst (v := 0) d_M_goes_109 (by decide) ?_
      refine rz_puti d_M_goes_110 f_12_36 rfl rfl rfl ?_
      refine rz_pure (pc' := 114) d_M_goes_113 rfl ?_
      refine rz_iconst (v := 0) d_M_goes_114 (by decide) ?_
      refine rz_puti d_M_goes_115 f_12_39 rfl rfl rfl ?_
      refine rz_pure (pc' := 119) d_M_goes_118 rfl ?_
      refine rz_iconst (v := 1) d_M_goes_119 (by decide) ?_
      refine rz_puti d_M_goes_120 f_12_42 rfl rfl (by decide) ?_
      exact rz_pick (ks := [0, 1]) (l := [(0, .ref 116), (1, .int a1)]) rfl rfl (by decide) rfl ((w.2 b1).1 b2)
  · skip
    refine rz_pure (pc' := 46) d_M_goes_45 rfl ?_
    refine rz_getiv (v := S.2 116 9) d_M_goes_46 f_12_30 rfl rfl ((rz_uI_n (fun h => absurd h.2 (by decide))).trans rfl) ?_
    refine rz_bipush (v := 10) d_M_goes_49 (by decide) ?_
    refine rz_icmpge (tgt := 64) d_M_goes_51 rfl (fun b3 => ?_) (fun b3 => ?_)
    · skip
      exact rz_pick (ks := [0, 1]) (l := [(0, .ref 116), (1, .int a1)]) rfl rfl (by decide) rfl ((w.1 b1).1 b3)
    · skip
      refine rz_pure (pc' := 55) d_M_goes_54 rfl ?_
      refine rz_pure (pc' := 56) d_M_goes_55 rfl ?_
      refine rz_getiv (v := S.2 116 9) d_M_goes_56 f_12_30 rfl rfl ((rz_uI_n (fun h => absurd h.2 (by decide))).trans rfl) ?_
      refine rz_iconst (v := 1) d_M_goes_59 (by decide) ?_
      refine rz_iadd d_M_goes_60 ?_
      refine rz_puti d_M_goes_61 f_12_30 rfl rfl rfl ?_
      exact rz_pick (ks := [0, 1]) (l := [(0, .ref 116), (1, .int a1)]) rfl rfl (by decide) rfl ((w.1 b1).2 b3)
theorem p_M_goes_123 {S : rz_S} {K : Int32 → rz_S → Prop} {a1 : Int32} (w : ((S.2 116 10 = 2 → ((8 ≤ (S.2 116 11) + 1 → (S.2 116 13 = 0 ∨ S.2 116 13 = 1) ∧ K 1 (rz_uI (rz_uI (rz_uI (rz_uI (rz_uI (rz_uI (rz_uI S 116 12 (((S.2 116 12) <<< ((1 : Int32) &&& 31)) ||| a1)) 116 11 ((S.2 116 11) + 1)) 116 14 (((S.2 116 12) <<< ((1 : Int32) &&& 31)) ||| a1)) 116 15 (S.2 116 13)) 116 13 0) 116 11 0) 116 12 0)) ∧ (¬ 8 ≤ (S.2 116 11) + 1 → K 0 (rz_uI (rz_uI S 116 12 (((S.2 116 12) <<< ((1 : Int32) &&& 31)) ||| a1)) 116 11 ((S.2 116 11) + 1))))) ∧ (¬ S.2 116 10 = 2 → K 0 S))) : rz mM_goes 123 [(0, .ref 116), (1, .int a1)] [] S (rz_i K) := by
  refine rz_pure (pc' := 124) d_M_goes_123 rfl ?_
  refine rz_getiv (v := S.2 116 10) d_M_goes_124 f_12_33 rfl rfl rfl ?_
  refine rz_iconst (v := 2) d_M_goes_127 (by decide) ?_
  refine rz_icmpeq (tgt := 133) d_M_goes_128 rfl (fun b1 => ?_) (fun b1 => ?_)
  · skip
    refine rz_pure (pc' := 134) d_M_goes_133 rfl ?_
    refine rz_pure (pc' := 135) d_M_goes_134 rfl ?_
    refine rz_getiv (v := S.2 116 12) d_M_goes_135 f_12_39 rfl rfl rfl ?_
    refine rz_iconst (v := 1) d_M_goes_138 (by decide) ?_
    refine rz_ishl d_M_goes_139 ?_
    refine rz_pure (pc' := 141) d_M_goes_140 rfl ?_
    refine rz_ior d_M_goes_141 ?_
    refine rz_puti d_M_goes_142 f_12_39 rfl rfl rfl ?_
    refine rz_pure (pc' := 146) d_M_goes_145 rfl ?_
    refine rz_pure (pc' := 147) d_M_goes_146 rfl ?_
    refine rz_getiv (v := S.2 116 11) d_M_goes_147 f_12_36 rfl rfl ((rz_uI_n (fun h => absurd h.2 (by decide))).trans rfl) ?_
    refine rz_iconst (v := 1) d_M_goes_150 (by decide) ?_
    refine rz_iadd d_M_goes_151 ?_
    refine rz_puti d_M_goes_152 f_12_36 rfl rfl rfl ?_
    refine rz_pure (pc' := 156) d_M_goes_155 rfl ?_
    refine rz_getiv (v := (S.2 116 11) + 1) d_M_goes_156 f_12_36 rfl rfl rz_uI_s ?_
    refine rz_bipush (v := 8) d_M_goes_159 (by decide) ?_
    refine rz_icmpge (tgt := 166) d_M_goes_161 rfl (fun b2 => ?_) (fun b2 => ?_)
    · skip
      refine rz_pure (pc' := 167) d_M_goes_166 rfl ?_
      refine rz_pure (pc' := 168) d_M_goes_167 rfl ?_
      refine rz_getiv (v := ((S.2 116 12) <<< ((1 : Int32) &&& 31)) ||| a1) d_M_goes_168 f_12_39 rfl rfl ((rz_uI_n (fun h => absurd h.2 (by decide))).trans rz_uI_s) ?_
      refine rz_puti d_M_goes_171 f_12_50 rfl rfl rfl ?_
      refine rz_pure (pc' := 175) d_M_goes_174 rfl ?_
      refine rz_pure (pc' := 176) d_M_goes_175 rfl ?_
      refine rz_getiv (v := S.2 116 13) d_M_goes_176 f_12_42 rfl rfl ((rz_uI_n (fun h => absurd h.2 (by decide))).trans ((rz_uI_n (fun h => absurd h.2 (by decide))).trans ((rz_uI_n (fun h => absurd h.2 (by decide))).trans rfl))) ?_
      refine rz_puti d_M_goes_179 f_12_53 rfl rfl (rz_bfit ((w.1 b1).1 b2).1) ?_
      refine rz_pure (pc' := 183) d_M_goes_182 rfl ?_
      refine rz_iconst (v := 0) d_M_goes_183 (by decide) ?_
      refine rz_puti d_M_goes_184 f_12_42 rfl rfl (by decide) ?_
      refine rz_pure (pc' := 188) d_M_goes_187 rfl ?_
      refine rz_iconst (v := 0) d_M_goes_188 (by decide) ?_
      refine rz_puti d_M_goes_189 f_12_36 rfl rfl rfl ?_
      refine rz_pure (pc' := 193) d_M_goes_192 rfl ?_
      refine rz_iconst (v := 0) d_M_goes_193 (by decide) ?_
      refine rz_puti d_M_goes_194 f_12_39 rfl rfl rfl ?_
      refine rz_iconst (v := 1) d_M_goes_197 (by decide) ?_
      exact rz_ireti d_M_goes_198 rfl (by decide) ((w.1 b1).1 b2).2
    · skip
      refine rz_iconst (v := 0) d_M_goes_164 (by decide) ?_
      exact rz_ireti d_M_goes_165 rfl (by decide) ((w.1 b1).2 b2)
  · skip
    refine rz_iconst (v := 0) d_M_goes_131 (by decide) ?_
    exact rz_ireti d_M_goes_132 rfl (by decide) (w.2 b1)
theorem p_M_goes_64 {S : rz_S} {K : Int32 → rz_S → Prop} {a1 : Int32} (w : ((S.2 116 9 = 10 → K 0 (rz_uI (rz_uI (rz_uI S 116 10 1) 116 11 0) 116 12 0)) ∧ (¬ S.2 116 9 = 10 → rz mM_goes 123 [(0, .ref 116), (1, .int a1)] [] S (rz_i K)))) : rz mM_goes 64 [(0, .ref 116), (1, .int a1)] [] S (rz_i K) := by
  refine rz_pure (pc' := 65) d_M_goes_64 rfl ?_
  refine rz_getiv (v := S.2 116 9) d_M_goes_65 f_12_30 rfl rfl rfl ?_
  refine rz_bipush (v := 10) d_M_goes_68 (by decide) ?_
  refine rz_icmpne (tgt := 123) d_M_goes_70 rfl (fun b1 => ?_) (fun b1 => ?_)
  · skip
    exact rz_pick (ks := [0, 1]) (l := [(0, .ref 116), (1, .int a1)]) rfl rfl (by decide) rfl (w.2 b1)
  · skip
    refine rz_pure (pc' := 74) d_M_goes_73 rfl ?_
    refine rz_iconst (v := 1) d_M_goes_74 (by decide) ?_
    refine rz_puti d_M_goes_75 f_12_33 rfl rfl rfl ?_
    refine rz_pure (pc' := 79) d_M_goes_78 rfl ?_
    refine rz_iconst (v := 0) d_M_goes_79 (by decide) ?_
    refine rz_puti d_M_goes_80 f_12_36 rfl rfl rfl ?_
    refine rz_pure (pc' := 84) d_M_goes_83 rfl ?_
    refine rz_iconst (v := 0) d_M_goes_84 (by decide) ?_
    refine rz_puti d_M_goes_85 f_12_39 rfl rfl rfl ?_
    refine rz_iconst (v := 0) d_M_goes_88 (by decide) ?_
    exact rz_ireti d_M_goes_89 rfl (by decide) (w.1 b1)
theorem d_M_comes_0 : decode (rm_code mM_comes) 0 = .ok (.iconst 0, 1) := by decide +kernel
theorem d_M_comes_1 : decode (rm_code mM_comes) 1 = .ok (.istore_n 1, 1) := by decide +kernel
theorem d_M_comes_2 : decode (rm_code mM_comes) 2 = .ok (.iload_n 1, 1) := by decide +kernel
theorem d_M_comes_3 : decode (rm_code mM_comes) 3 = .ok (.ifCond .ne (11), 3) := by decide +kernel
theorem d_M_comes_6 : decode (rm_code mM_comes) 6 = .ok (.aload_n 0, 1) := by decide +kernel
theorem d_M_comes_7 : decode (rm_code mM_comes) 7 = .ok (.invokevirtual 56, 3) := by decide +kernel
theorem d_M_comes_10 : decode (rm_code mM_comes) 10 = .ok (.istore_n 1, 1) := by decide +kernel
theorem d_M_comes_11 : decode (rm_code mM_comes) 11 = .ok (.goto (-9), 3) := by decide +kernel
theorem d_M_comes_14 : decode (rm_code mM_comes) 14 = .ok (.aload_n 0, 1) := by decide +kernel
theorem d_M_comes_15 : decode (rm_code mM_comes) 15 = .ok (.getfield 50, 3) := by decide +kernel
theorem d_M_comes_18 : decode (rm_code mM_comes) 18 = .ok (.ireturn, 1) := by decide +kernel
theorem p_M_comes_0 {S : rz_S} {K : Int32 → rz_S → Prop} (w : rz mM_comes 2 [(0, .ref 116), (1, .int 0)] [] S (rz_i K)) : rz mM_comes 0 [(0, .ref 116)] [] S (rz_i K) := by
  refine rz_iconst (v := 0) d_M_comes_0 (by decide) ?_
  refine rz_pure (pc' := 2) (l' := [(1, .int 0), (0, .ref 116)]) d_M_comes_1 rfl ?_
  exact rz_pick (ks := [0, 1]) (l := [(0, .ref 116), (1, .int 0)]) rfl rfl (by decide) rfl w
theorem p_M_comes_2 {S : rz_S} {K : Int32 → rz_S → Prop} {a1 : Int32} (w : ((a1 = 0 → rz_ev mM_goes [.ref 116] S (rz_i (fun xq2 Sq2 => rz mM_comes 2 [(0, .ref 116), (1, .int xq2)] [] Sq2 (rz_i K)))) ∧ (¬ a1 = 0 → K (S.2 116 14) S))) : rz mM_comes 2 [(0, .ref 116), (1, .int a1)] [] S (rz_i K) := by
  refine rz_pure (pc' := 3) d_M_comes_2 rfl ?_
  refine rz_ifne (tgt := 14) d_M_comes_3 rfl (fun b1 => ?_) (fun b1 => ?_)
  · skip
    refine rz_pure (pc' := 15) d_M_comes_14 rfl ?_
    refine rz_getiv (v := S.2 116 14) d_M_comes_15 f_12_50 rfl rfl rfl ?_
    exact rz_ireti d_M_comes_18 rfl rfl (w.2 b1)
  · skip
    refine rz_pure (pc' := 7) d_M_comes_6 rfl ?_
    refine rz_callVi (t := []) d_M_comes_7 w_12_56 rfl rfl rfl (w.1 b1) (fun xq2 Sq2 q2 => ?_)
    refine rz_pure (pc' := 11) (l' := [(1, .int xq2), (0, .ref 116)]) d_M_comes_10 rfl ?_
    refine rz_pure (pc' := 2) d_M_comes_11 rfl ?_
    exact rz_pick (ks := [0, 1]) (l := [(0, .ref 116), (1, .int xq2)]) rfl rfl (by decide) rfl q2
theorem d_M_round_0 : decode (rm_code mM_round) 0 = .ok (.bipush (8), 2) := by decide +kernel
theorem d_M_round_2 : decode (rm_code mM_round) 2 = .ok (.iload_n 1, 1) := by decide +kernel
theorem d_M_round_3 : decode (rm_code mM_round) 3 = .ok (.invokestatic 21, 3) := by decide +kernel
theorem d_M_round_6 : decode (rm_code mM_round) 6 = .ok (.imul, 1) := by decide +kernel
theorem d_M_round_7 : decode (rm_code mM_round) 7 = .ok (.istore_n 2, 1) := by decide +kernel
theorem d_M_round_8 : decode (rm_code mM_round) 8 = .ok (.iconst 0, 1) := by decide +kernel
theorem d_M_round_9 : decode (rm_code mM_round) 9 = .ok (.istore_n 3, 1) := by decide +kernel
theorem d_M_round_10 : decode (rm_code mM_round) 10 = .ok (.iload_n 3, 1) := by decide +kernel
theorem d_M_round_11 : decode (rm_code mM_round) 11 = .ok (.bipush (10), 2) := by decide +kernel
theorem d_M_round_13 : decode (rm_code mM_round) 13 = .ok (.if_icmp .ge (24), 3) := by decide +kernel
theorem d_M_round_16 : decode (rm_code mM_round) 16 = .ok (.aload_n 0, 1) := by decide +kernel
theorem d_M_round_17 : decode (rm_code mM_round) 17 = .ok (.iload_n 1, 1) := by decide +kernel
theorem d_M_round_18 : decode (rm_code mM_round) 18 = .ok (.iload_n 2, 1) := by decide +kernel
theorem d_M_round_19 : decode (rm_code mM_round) 19 = .ok (.iconst 1, 1) := by decide +kernel
theorem d_M_round_20 : decode (rm_code mM_round) 20 = .ok (.isub, 1) := by decide +kernel
theorem d_M_round_21 : decode (rm_code mM_round) 21 = .ok (.iload_n 3, 1) := by decide +kernel
theorem d_M_round_22 : decode (rm_code mM_round) 22 = .ok (.isub, 1) := by decide +kernel
theorem d_M_round_23 : decode (rm_code mM_round) 23 = .ok (.invokevirtual 46, 3) := by decide +kernel
theorem d_M_round_26 : decode (rm_code mM_round) 26 = .ok (.iconst 1, 1) := by decide +kernel
theorem d_M_round_27 : decode (rm_code mM_round) 27 = .ok (.if_icmp .ne (10), 3) := by decide +kernel
theorem d_M_round_30 : decode (rm_code mM_round) 30 = .ok (.iload_n 3, 1) := by decide +kernel
theorem d_M_round_31 : decode (rm_code mM_round) 31 = .ok (.iconst 1, 1) := by decide +kernel
theorem d_M_round_32 : decode (rm_code mM_round) 32 = .ok (.iadd, 1) := by decide +kernel
theorem d_M_round_33 : decode (rm_code mM_round) 33 = .ok (.istore_n 3, 1) := by decide +kernel
theorem d_M_round_34 : decode (rm_code mM_round) 34 = .ok (.goto (-24), 3) := by decide +kernel
theorem d_M_round_37 : decode (rm_code mM_round) 37 = .ok (.aload_n 0, 1) := by decide +kernel
theorem d_M_round_38 : decode (rm_code mM_round) 38 = .ok (.iload_n 1, 1) := by decide +kernel
theorem d_M_round_39 : decode (rm_code mM_round) 39 = .ok (.iconst 0, 1) := by decide +kernel
theorem d_M_round_40 : decode (rm_code mM_round) 40 = .ok (.iload_n 3, 1) := by decide +kernel
theorem d_M_round_41 : decode (rm_code mM_round) 41 = .ok (.invokevirtual 60, 3) := by decide +kernel
theorem d_M_round_44 : decode (rm_code mM_round) 44 = .ok (.iconst 0, 1) := by decide +kernel
theorem d_M_round_45 : decode (rm_code mM_round) 45 = .ok (.istore 4, 2) := by decide +kernel
theorem d_M_round_47 : decode (rm_code mM_round) 47 = .ok (.iconst 0, 1) := by decide +kernel
theorem d_M_round_48 : decode (rm_code mM_round) 48 = .ok (.istore 5, 2) := by decide +kernel
theorem d_M_round_50 : decode (rm_code mM_round) 50 = .ok (.iload 5, 2) := by decide +kernel
theorem d_M_round_52 : decode (rm_code mM_round) 52 = .ok (.iload_n 2, 1) := by decide +kernel
theorem d_M_round_53 : decode (rm_code mM_round) 53 = .ok (.if_icmp .ge (49), 3) := by decide +kernel
theorem d_M_round_56 : decode (rm_code mM_round) 56 = .ok (.aload_n 0, 1) := by decide +kernel
theorem d_M_round_57 : decode (rm_code mM_round) 57 = .ok (.getfield 33, 3) := by decide +kernel
theorem d_M_round_60 : decode (rm_code mM_round) 60 = .ok (.istore 6, 2) := by decide +kernel
theorem d_M_round_62 : decode (rm_code mM_round) 62 = .ok (.aload_n 0, 1) := by decide +kernel
theorem d_M_round_63 : decode (rm_code mM_round) 63 = .ok (.invokevirtual 56, 3) := by decide +kernel
theorem d_M_round_66 : decode (rm_code mM_round) 66 = .ok (.pop, 1) := by decide +kernel
theorem d_M_round_67 : decode (rm_code mM_round) 67 = .ok (.iload 6, 2) := by decide +kernel
theorem d_M_round_69 : decode (rm_code mM_round) 69 = .ok (.iconst 1, 1) := by decide +kernel
theorem d_M_round_70 : decode (rm_code mM_round) 70 = .ok (.if_icmp .ne (26), 3) := by decide +kernel
theorem d_M_round_73 : decode (rm_code mM_round) 73 = .ok (.aload_n 0, 1) := by decide +kernel
theorem d_M_round_74 : decode (rm_code mM_round) 74 = .ok (.getfield 33, 3) := by decide +kernel
theorem d_M_round_77 : decode (rm_code mM_round) 77 = .ok (.iconst 2, 1) := by decide +kernel
theorem d_M_round_78 : decode (rm_code mM_round) 78 = .ok (.if_icmp .ne (18), 3) := by decide +kernel
theorem d_M_round_81 : decode (rm_code mM_round) 81 = .ok (.aload_n 0, 1) := by decide +kernel
theorem d_M_round_82 : decode (rm_code mM_round) 82 = .ok (.getfield 64, 3) := by decide +kernel
theorem d_M_round_85 : decode (rm_code mM_round) 85 = .ok (.iload 4, 2) := by decide +kernel
theorem d_M_round_87 : decode (rm_code mM_round) 87 = .ok (.iload 5, 2) := by decide +kernel
theorem d_M_round_89 : decode (rm_code mM_round) 89 = .ok (.iastore, 1) := by decide +kernel
theorem d_M_round_90 : decode (rm_code mM_round) 90 = .ok (.iload 4, 2) := by decide +kernel
theorem d_M_round_92 : decode (rm_code mM_round) 92 = .ok (.iconst 1, 1) := by decide +kernel
theorem d_M_round_93 : decode (rm_code mM_round) 93 = .ok (.iadd, 1) := by decide +kernel
theorem d_M_round_94 : decode (rm_code mM_round) 94 = .ok (.istore 4, 2) := by decide +kernel
theorem d_M_round_96 : decode (rm_code mM_round) 96 = .ok (.iinc 5 (1), 3) := by decide +kernel
theorem d_M_round_99 : decode (rm_code mM_round) 99 = .ok (.goto (-49), 3) := by decide +kernel
theorem d_M_round_102 : decode (rm_code mM_round) 102 = .ok (.iload 4, 2) := by decide +kernel
theorem d_M_round_104 : decode (rm_code mM_round) 104 = .ok (.ireturn, 1) := by decide +kernel
theorem p_M_round_0 {S : rz_S} {K : Int32 → rz_S → Prop} {a1 : Int32} (w : rz_ev mM_bytesOf [.int a1] S (rz_i (fun xq1 Sq1 => rz mM_round 10 [(0, .ref 116), (1, .int a1), (2, .int (8 * xq1)), (3, .int 0)] [] Sq1 (rz_i K)))) : rz mM_round 0 [(0, .ref 116), (1, .int a1)] [] S (rz_i K) := by
  refine rz_bipush (v := 8) d_M_round_0 (by decide) ?_
  refine rz_pure (pc' := 3) d_M_round_2 rfl ?_
  refine rz_callSi (t := [.int a1]) d_M_round_3 rfl w_12_21 rfl rfl w (fun xq1 Sq1 q1 => ?_)
  refine rz_imul d_M_round_6 ?_
  refine rz_pure (pc' := 8) (l' := [(2, .int (8 * xq1)), (0, .ref 116), (1, .int a1)]) d_M_round_7 rfl ?_
  refine rz_iconst (v := 0) d_M_round_8 (by decide) ?_
  refine rz_pure (pc' := 10) (l' := [(3, .int 0), (2, .int (8 * xq1)), (0, .ref 116), (1, .int a1)]) d_M_round_9 rfl ?_
  exact rz_pick (ks := [0, 1, 2, 3]) (l := [(0, .ref 116), (1, .int a1), (2, .int (8 * xq1)), (3, .int 0)]) rfl rfl (by decide) rfl q1
theorem p_M_round_10 {S : rz_S} {K : Int32 → rz_S → Prop} {a1 : Int32} {a2 : Int32} {a3 : Int32} (w : ((10 ≤ a3 → rz mM_round 37 [(0, .ref 116), (1, .int a1), (2, .int a2), (3, .int a3)] [] S (rz_i K)) ∧ (¬ 10 ≤ a3 → rz_ev mM_bitAt [.ref 116, .int a1, .int ((a2 - 1) - a3)] S (rz_i (fun xq2 Sq2 => ((xq2 = 1 → rz mM_round 10 [(0, .ref 116), (1, .int a1), (2, .int a2), (3, .int (a3 + 1))] [] Sq2 (rz_i K)) ∧ (¬ xq2 = 1 → rz mM_round 37 [(0, .ref 116), (1, .int a1), (2, .int a2), (3, .int a3)] [] Sq2 (rz_i K)))))))) : rz mM_round 10 [(0, .ref 116), (1, .int a1), (2, .int a2), (3, .int a3)] [] S (rz_i K) := by
  refine rz_pure (pc' := 11) d_M_round_10 rfl ?_
  refine rz_bipush (v := 10) d_M_round_11 (by decide) ?_
  refine rz_icmpge (tgt := 37) d_M_round_13 rfl (fun b1 => ?_) (fun b1 => ?_)
  · skip
    exact rz_pick (ks := [0, 1, 2, 3]) (l := [(0, .ref 116), (1, .int a1), (2, .int a2), (3, .int a3)]) rfl rfl (by decide) rfl (w.1 b1)
  · skip
    refine rz_pure (pc' := 17) d_M_round_16 rfl ?_
    refine rz_pure (pc' := 18) d_M_round_17 rfl ?_
    refine rz_pure (pc' := 19) d_M_round_18 rfl ?_
    refine rz_iconst (v := 1) d_M_round_19 (by decide) ?_
    refine rz_isub d_M_round_20 ?_
    refine rz_pure (pc' := 22) d_M_round_21 rfl ?_
    refine rz_isub d_M_round_22 ?_
    refine rz_callVi (t := [.int ((a2 - 1) - a3), .int a1]) d_M_round_23 w_12_46 rfl rfl rfl (w.2 b1) (fun xq2 Sq2 q2 => ?_)
    refine rz_iconst (v := 1) d_M_round_26 (by decide) ?_
    refine rz_icmpne (tgt := 37) d_M_round_27 rfl (fun b3 => ?_) (fun b3 => ?_)
    · skip
      exact rz_pick (ks := [0, 1, 2, 3]) (l := [(0, .ref 116), (1, .int a1), (2, .int a2), (3, .int a3)]) rfl rfl (by decide) rfl (q2.2 b3)
    · skip
      refine rz_pure (pc' := 31) d_M_round_30 rfl ?_
      refine rz_iconst (v := 1) d_M_round_31 (by decide) ?_
      refine rz_iadd d_M_round_32 ?_
      refine rz_pure (pc' := 34) (l' := [(3, .int (a3 + 1)), (0, .ref 116), (1, .int a1), (2, .int a2)]) d_M_round_33 rfl ?_
      refine rz_pure (pc' := 10) d_M_round_34 rfl ?_
      exact rz_pick (ks := [0, 1, 2, 3]) (l := [(0, .ref 116), (1, .int a1), (2, .int a2), (3, .int (a3 + 1))]) rfl rfl (by decide) rfl (q2.1 b3)
theorem p_M_round_37 {S : rz_S} {K : Int32 → rz_S → Prop} {a1 : Int32} {a2 : Int32} {a3 : Int32} (w : rz_ev mM_along [.ref 116, .int a1, .int 0, .int a3] S (rz_v (fun Sq1 => rz mM_round 50 [(0, .ref 116), (2, .int a2), (4, .int 0), (5, .int 0)] [] Sq1 (rz_i K)))) : rz mM_round 37 [(0, .ref 116), (1, .int a1), (2, .int a2), (3, .int a3)] [] S (rz_i K) := by
  refine rz_pure (pc' := 38) d_M_round_37 rfl ?_
  refine rz_pure (pc' := 39) d_M_round_38 rfl ?_
  refine rz_iconst (v := 0) d_M_round_39 (by decide) ?_
  refine rz_pure (pc' := 41) d_M_round_40 rfl ?_
  refine rz_callVv (t := [.int a3, .int 0, .int a1]) d_M_round_41 w_12_60 rfl rfl rfl w (fun Sq1 q1 => ?_)
  refine rz_iconst (v := 0) d_M_round_44 (by decide) ?_
  refine rz_pure (pc' := 47) (l' := [(4, .int 0), (0, .ref 116), (1, .int a1), (2, .int a2), (3, .int a3)]) d_M_round_45 rfl ?_
  refine rz_iconst (v := 0) d_M_round_47 (by decide) ?_
  refine rz_pure (pc' := 50) (l' := [(5, .int 0), (4, .int 0), (0, .ref 116), (1, .int a1), (2, .int a2), (3, .int a3)]) d_M_round_48 rfl ?_
  exact rz_pick (ks := [0, 2, 4, 5]) (l := [(0, .ref 116), (2, .int a2), (4, .int 0), (5, .int 0)]) rfl rfl (by decide) rfl q1
theorem p_M_round_50 {S : rz_S} {K : Int32 → rz_S → Prop} {a2 : Int32} {a4 : Int32} {a5 : Int32} (w : ((a2 ≤ a5 → K a4 S) ∧ (¬ a2 ≤ a5 → rz_ev mM_goes [.ref 116] S (rz_i (fun xq2 Sq2 => ((S.2 116 10 = 1 → ((Sq2.2 116 10 = 2 → rx_in a4 800 = true ∧ rz mM_round 50 [(0, .ref 116), (2, .int a2), (4, .int (a4 + 1)), (5, .int (a5 + 1))] [] (rz_fA Sq2 118 (upd (Sq2.1 118) a4.toNatClampNeg a5)) (rz_i K)) ∧ (¬ Sq2.2 116 10 = 2 → rz mM_round 50 [(0, .ref 116), (2, .int a2), (4, .int a4), (5, .int (a5 + 1))] [] Sq2 (rz_i K)))) ∧ (¬ S.2 116 10 = 1 → rz mM_round 50 [(0, .ref 116), (2, .int a2), (4, .int a4), (5, .int (a5 + 1))] [] Sq2 (rz_i K)))))))) : rz mM_round 50 [(0, .ref 116), (2, .int a2), (4, .int a4), (5, .int a5)] [] S (rz_i K) := by
  refine rz_pure (pc' := 52) d_M_round_50 rfl ?_
  refine rz_pure (pc' := 53) d_M_round_52 rfl ?_
  refine rz_icmpge (tgt := 102) d_M_round_53 rfl (fun b1 => ?_) (fun b1 => ?_)
  · skip
    refine rz_pure (pc' := 104) d_M_round_102 rfl ?_
    exact rz_ireti d_M_round_104 rfl rfl (w.1 b1)
  · skip
    refine rz_pure (pc' := 57) d_M_round_56 rfl ?_
    refine rz_getiv (v := S.2 116 10) d_M_round_57 f_12_33 rfl rfl rfl ?_
    refine rz_pure (pc' := 62) (l' := [(6, .int (S.2 116 10)), (0, .ref 116), (2, .int a2), (4, .int a4), (5, .int a5)]) d_M_round_60 rfl ?_
    refine rz_pure (pc' := 63) d_M_round_62 rfl ?_
    refine rz_callVi (t := []) d_M_round_63 w_12_56 rfl rfl rfl (w.2 b1) (fun xq2 Sq2 q2 => ?_)
    refine rz_pure (pc' := 67) d_M_round_66 rfl ?_
    refine rz_pure (pc' := 69) d_M_round_67 rfl ?_
    refine rz_iconst (v := 1) d_M_round_69 (by decide) ?_
    refine rz_icmpne (tgt := 96) d_M_round_70 rfl (fun b3 => ?_) (fun b3 => ?_)
    · skip
      refine rz_pure (pc' := 99) (l' := [(5, .int (a5 + 1)), (6, .int (S.2 116 10)), (0, .ref 116), (2, .int a2), (4, .int a4)]) d_M_round_96 rfl ?_
      refine rz_pure (pc' := 50) d_M_round_99 rfl ?_
      exact rz_pick (ks := [0, 2, 4, 5]) (l := [(0, .ref 116), (2, .int a2), (4, .int a4), (5, .int (a5 + 1))]) rfl rfl (by decide) rfl (q2.2 b3)
    · skip
      refine rz_pure (pc' := 74) d_M_round_73 rfl ?_
      refine rz_getiv (v := Sq2.2 116 10) d_M_round_74 f_12_33 rfl rfl rfl ?_
      refine rz_iconst (v := 2) d_M_round_77 (by decide) ?_
      refine rz_icmpne (tgt := 96) d_M_round_78 rfl (fun b4 => ?_) (fun b4 => ?_)
      · skip
        refine rz_pure (pc' := 99) (l' := [(5, .int (a5 + 1)), (6, .int (S.2 116 10)), (0, .ref 116), (2, .int a2), (4, .int a4)]) d_M_round_96 rfl ?_
        refine rz_pure (pc' := 50) d_M_round_99 rfl ?_
        exact rz_pick (ks := [0, 2, 4, 5]) (l := [(0, .ref 116), (2, .int a2), (4, .int a4), (5, .int (a5 + 1))]) rfl rfl (by decide) rfl ((q2.1 b3).2 b4)
      · skip
        refine rz_pure (pc' := 82) d_M_round_81 rfl ?_
        refine rz_getr d_M_round_82 f_12_64 rfl rfl ?_
        refine rz_pure (pc' := 87) d_M_round_85 rfl ?_
        refine rz_pure (pc' := 89) d_M_round_87 rfl ?_
        refine rz_iastv (F := Sq2.1 118) (i := a4.toNatClampNeg) d_M_round_89 rfl ((q2.1 b3).1 b4).1 rfl rfl ?_
        refine rz_pure (pc' := 92) d_M_round_90 rfl ?_
        refine rz_iconst (v := 1) d_M_round_92 (by decide) ?_
        refine rz_iadd d_M_round_93 ?_
        refine rz_pure (pc' := 96) (l' := [(4, .int (a4 + 1)), (6, .int (S.2 116 10)), (0, .ref 116), (2, .int a2), (5, .int a5)]) d_M_round_94 rfl ?_
        refine rz_pure (pc' := 99) (l' := [(5, .int (a5 + 1)), (4, .int (a4 + 1)), (6, .int (S.2 116 10)), (0, .ref 116), (2, .int a2)]) d_M_round_96 rfl ?_
        refine rz_pure (pc' := 50) d_M_round_99 rfl ?_
        exact rz_pick (ks := [0, 2, 4, 5]) (l := [(0, .ref 116), (2, .int a2), (4, .int (a4 + 1)), (5, .int (a5 + 1))]) rfl rfl (by decide) rfl ((q2.1 b3).1 b4).2
theorem d_M_groupOf_0 : decode (rm_code mM_groupOf) 0 = .ok (.iload_n 0, 1) := by decide +kernel
theorem d_M_groupOf_1 : decode (rm_code mM_groupOf) 1 = .ok (.tableswitch (120) (0) (14) #[(75), (78), (81), (84), (87), (90), (93), (96), (99), (102), (105), (108), (111), (114), (117)], 75) := by decide +kernel
theorem d_M_groupOf_76 : decode (rm_code mM_groupOf) 76 = .ok (.bipush (10), 2) := by decide +kernel
theorem d_M_groupOf_78 : decode (rm_code mM_groupOf) 78 = .ok (.ireturn, 1) := by decide +kernel
theorem d_M_groupOf_79 : decode (rm_code mM_groupOf) 79 = .ok (.bipush (11), 2) := by decide +kernel
theorem d_M_groupOf_81 : decode (rm_code mM_groupOf) 81 = .ok (.ireturn, 1) := by decide +kernel
theorem d_M_groupOf_82 : decode (rm_code mM_groupOf) 82 = .ok (.bipush (18), 2) := by decide +kernel
theorem d_M_groupOf_84 : decode (rm_code mM_groupOf) 84 = .ok (.ireturn, 1) := by decide +kernel
theorem d_M_groupOf_85 : decode (rm_code mM_groupOf) 85 = .ok (.bipush (19), 2) := by decide +kernel
theorem d_M_groupOf_87 : decode (rm_code mM_groupOf) 87 = .ok (.ireturn, 1) := by decide +kernel
theorem d_M_groupOf_88 : decode (rm_code mM_groupOf) 88 = .ok (.bipush (14), 2) := by decide +kernel
theorem d_M_groupOf_90 : decode (rm_code mM_groupOf) 90 = .ok (.ireturn, 1) := by decide +kernel
theorem d_M_groupOf_91 : decode (rm_code mM_groupOf) 91 = .ok (.bipush (15), 2) := by decide +kernel
theorem d_M_groupOf_93 : decode (rm_code mM_groupOf) 93 = .ok (.ireturn, 1) := by decide +kernel
theorem d_M_groupOf_94 : decode (rm_code mM_groupOf) 94 = .ok (.bipush (22), 2) := by decide +kernel
theorem d_M_groupOf_96 : decode (rm_code mM_groupOf) 96 = .ok (.ireturn, 1) := by decide +kernel
theorem d_M_groupOf_97 : decode (rm_code mM_groupOf) 97 = .ok (.bipush (23), 2) := by decide +kernel
theorem d_M_groupOf_99 : decode (rm_code mM_groupOf) 99 = .ok (.ireturn, 1) := by decide +kernel
theorem d_M_groupOf_100 : decode (rm_code mM_groupOf) 100 = .ok (.bipush (9), 2) := by decide +kernel
theorem d_M_groupOf_102 : decode (rm_code mM_groupOf) 102 = .ok (.ireturn, 1) := by decide +kernel
theorem d_M_groupOf_103 : decode (rm_code mM_groupOf) 103 = .ok (.bipush (25), 2) := by decide +kernel
theorem d_M_groupOf_105 : decode (rm_code mM_groupOf) 105 = .ok (.ireturn, 1) := by decide +kernel
theorem d_M_groupOf_106 : decode (rm_code mM_groupOf) 106 = .ok (.bipush (26), 2) := by decide +kernel
theorem d_M_groupOf_108 : decode (rm_code mM_groupOf) 108 = .ok (.ireturn, 1) := by decide +kernel
theorem d_M_groupOf_109 : decode (rm_code mM_groupOf) 109 = .ok (.bipush (27), 2) := by decide +kernel
theorem d_M_groupOf_111 : decode (rm_code mM_groupOf) 111 = .ok (.ireturn, 1) := by decide +kernel
theorem d_M_groupOf_112 : decode (rm_code mM_groupOf) 112 = .ok (.bipush (13), 2) := by decide +kernel
theorem d_M_groupOf_114 : decode (rm_code mM_groupOf) 114 = .ok (.ireturn, 1) := by decide +kernel
theorem d_M_groupOf_115 : decode (rm_code mM_groupOf) 115 = .ok (.bipush (29), 2) := by decide +kernel
theorem d_M_groupOf_117 : decode (rm_code mM_groupOf) 117 = .ok (.ireturn, 1) := by decide +kernel
theorem d_M_groupOf_118 : decode (rm_code mM_groupOf) 118 = .ok (.bipush (30), 2) := by decide +kernel
theorem d_M_groupOf_120 : decode (rm_code mM_groupOf) 120 = .ok (.ireturn, 1) := by decide +kernel
theorem d_M_groupOf_121 : decode (rm_code mM_groupOf) 121 = .ok (.bipush (21), 2) := by decide +kernel
theorem d_M_groupOf_123 : decode (rm_code mM_groupOf) 123 = .ok (.ireturn, 1) := by decide +kernel
theorem p_M_groupOf_0 {S : rz_S} {K : Int32 → rz_S → Prop} {a0 : Int32} (w : ((a0.toInt < 0 ∨ 14 < a0.toInt → K 21 S) ∧ (a0 = 0 → K 10 S) ∧ (a0 = 1 → K 11 S) ∧ (a0 = 2 → K 18 S) ∧ (a0 = 3 → K 19 S) ∧ (a0 = 4 → K 14 S) ∧ (a0 = 5 → K 15 S) ∧ (a0 = 6 → K 22 S) ∧ (a0 = 7 → K 23 S) ∧ (a0 = 8 → K 9 S) ∧ (a0 = 9 → K 25 S) ∧ (a0 = 10 → K 26 S) ∧ (a0 = 11 → K 27 S) ∧ (a0 = 12 → K 13 S) ∧ (a0 = 13 → K 29 S) ∧ (a0 = 14 → K 30 S))) : rz mM_groupOf 0 [(0, .int a0)] [] S (rz_i K) := by
  refine rz_pure (pc' := 1) d_M_groupOf_0 rfl ?_
  refine rz_tsw (n := 15) (lo := 0) (tgt := 121) d_M_groupOf_1 rfl rfl (fun b0 => ?_) (fun j hj hx => ?_)
  · skip
    refine rz_bipush (v := 21) d_M_groupOf_121 (by decide) ?_
    exact rz_ireti d_M_groupOf_123 rfl rfl (w.1 b0)
  · match j, hj with
    | 0, _ =>
      replace hx := hx.trans (show Int32.ofInt ((0 : Int) + ((0 : Nat) : Int)) = 0 from by decide)
      refine rz_tsj (tgt := 76) d_M_groupOf_1 hx rfl ?_
      refine rz_bipush (v := 10) d_M_groupOf_76 (by decide) ?_
      exact rz_ireti d_M_groupOf_78 rfl rfl (w.2.1 hx)
    | 1, _ =>
      replace hx := hx.trans (show Int32.ofInt ((0 : Int) + ((1 : Nat) : Int)) = 1 from by decide)
      refine rz_tsj (tgt := 79) d_M_groupOf_1 hx rfl ?_
      refine rz_bipush (v := 11) d_M_groupOf_79 (by decide) ?_
      exact rz_ireti d_M_groupOf_81 rfl rfl (w.2.2.1 hx)
    | 2, _ =>
      replace hx := hx.trans (show Int32.ofInt ((0 : Int) + ((2 : Nat) : Int)) = 2 from by decide)
      refine rz_tsj (tgt := 82) d_M_groupOf_1 hx rfl ?_
      refine rz_bipush (v := 18) d_M_groupOf_82 (by decide) ?_
      exact rz_ireti d_M_groupOf_84 rfl rfl (w.2.2.2.1 hx)
    | 3, _ =>
      replace hx := hx.trans (show Int32.ofInt ((0 : Int) + ((3 : Nat) : Int)) = 3 from by decide)
      refine rz_tsj (tgt := 85) d_M_groupOf_1 hx rfl ?_
      refine rz_bipush (v := 19) d_M_groupOf_85 (by decide) ?_
      exact rz_ireti d_M_groupOf_87 rfl rfl (w.2.2.2.2.1 hx)
    | 4, _ =>
      replace hx := hx.trans (show Int32.ofInt ((0 : Int) + ((4 : Nat) : Int)) = 4 from by decide)
      refine rz_tsj (tgt := 88) d_M_groupOf_1 hx rfl ?_
      refine rz_bipush (v := 14) d_M_groupOf_88 (by decide) ?_
      exact rz_ireti d_M_groupOf_90 rfl rfl (w.2.2.2.2.2.1 hx)
    | 5, _ =>
      replace hx := hx.trans (show Int32.ofInt ((0 : Int) + ((5 : Nat) : Int)) = 5 from by decide)
      refine rz_tsj (tgt := 91) d_M_groupOf_1 hx rfl ?_
      refine rz_bipush (v := 15) d_M_groupOf_91 (by decide) ?_
      exact rz_ireti d_M_groupOf_93 rfl rfl (w.2.2.2.2.2.2.1 hx)
    | 6, _ =>
      replace hx := hx.trans (show Int32.ofInt ((0 : Int) + ((6 : Nat) : Int)) = 6 from by decide)
      refine rz_tsj (tgt := 94) d_M_groupOf_1 hx rfl ?_
      refine rz_bipush (v := 22) d_M_groupOf_94 (by decide) ?_
      exact rz_ireti d_M_groupOf_96 rfl rfl (w.2.2.2.2.2.2.2.1 hx)
    | 7, _ =>
      replace hx := hx.trans (show Int32.ofInt ((0 : Int) + ((7 : Nat) : Int)) = 7 from by decide)
      refine rz_tsj (tgt := 97) d_M_groupOf_1 hx rfl ?_
      refine rz_bipush (v := 23) d_M_groupOf_97 (by decide) ?_
      exact rz_ireti d_M_groupOf_99 rfl rfl (w.2.2.2.2.2.2.2.2.1 hx)
    | 8, _ =>
      replace hx := hx.trans (show Int32.ofInt ((0 : Int) + ((8 : Nat) : Int)) = 8 from by decide)
      refine rz_tsj (tgt := 100) d_M_groupOf_1 hx rfl ?_
      refine rz_bipush (v := 9) d_M_groupOf_100 (by decide) ?_
      exact rz_ireti d_M_groupOf_102 rfl rfl (w.2.2.2.2.2.2.2.2.2.1 hx)
    | 9, _ =>
      replace hx := hx.trans (show Int32.ofInt ((0 : Int) + ((9 : Nat) : Int)) = 9 from by decide)
      refine rz_tsj (tgt := 103) d_M_groupOf_1 hx rfl ?_
      refine rz_bipush (v := 25) d_M_groupOf_103 (by decide) ?_
      exact rz_ireti d_M_groupOf_105 rfl rfl (w.2.2.2.2.2.2.2.2.2.2.1 hx)
    | 10, _ =>
      replace hx := hx.trans (show Int32.ofInt ((0 : Int) + ((10 : Nat) : Int)) = 10 from by decide)
      refine rz_tsj (tgt := 106) d_M_groupOf_1 hx rfl ?_
      refine rz_bipush (v := 26) d_M_groupOf_106 (by decide) ?_
      exact rz_ireti d_M_groupOf_108 rfl rfl (w.2.2.2.2.2.2.2.2.2.2.2.1 hx)
    | 11, _ =>
      replace hx := hx.trans (show Int32.ofInt ((0 : Int) + ((11 : Nat) : Int)) = 11 from by decide)
      refine rz_tsj (tgt := 109) d_M_groupOf_1 hx rfl ?_
      refine rz_bipush (v := 27) d_M_groupOf_109 (by decide) ?_
      exact rz_ireti d_M_groupOf_111 rfl rfl (w.2.2.2.2.2.2.2.2.2.2.2.2.1 hx)
    | 12, _ =>
      replace hx := hx.trans (show Int32.ofInt ((0 : Int) + ((12 : Nat) : Int)) = 12 from by decide)
      refine rz_tsj (tgt := 112) d_M_groupOf_1 hx rfl ?_
      refine rz_bipush (v := 13) d_M_groupOf_112 (by decide) ?_
      exact rz_ireti d_M_groupOf_114 rfl rfl (w.2.2.2.2.2.2.2.2.2.2.2.2.2.1 hx)
    | 13, _ =>
      replace hx := hx.trans (show Int32.ofInt ((0 : Int) + ((13 : Nat) : Int)) = 13 from by decide)
      refine rz_tsj (tgt := 115) d_M_groupOf_1 hx rfl ?_
      refine rz_bipush (v := 29) d_M_groupOf_115 (by decide) ?_
      exact rz_ireti d_M_groupOf_117 rfl rfl (w.2.2.2.2.2.2.2.2.2.2.2.2.2.2.1 hx)
    | 14, _ =>
      replace hx := hx.trans (show Int32.ofInt ((0 : Int) + ((14 : Nat) : Int)) = 14 from by decide)
      refine rz_tsj (tgt := 118) d_M_groupOf_1 hx rfl ?_
      refine rz_bipush (v := 30) d_M_groupOf_118 (by decide) ?_
      exact rz_ireti d_M_groupOf_120 rfl rfl (w.2.2.2.2.2.2.2.2.2.2.2.2.2.2.2 hx)
    | j + 15, h => exact absurd h (by omega)
theorem d_M_valueOf_0 : decode (rm_code mM_valueOf) 0 = .ok (.iconst (-1), 1) := by decide +kernel
theorem d_M_valueOf_1 : decode (rm_code mM_valueOf) 1 = .ok (.istore_n 1, 1) := by decide +kernel
theorem d_M_valueOf_2 : decode (rm_code mM_valueOf) 2 = .ok (.iconst 0, 1) := by decide +kernel
theorem d_M_valueOf_3 : decode (rm_code mM_valueOf) 3 = .ok (.istore_n 2, 1) := by decide +kernel
theorem d_M_valueOf_4 : decode (rm_code mM_valueOf) 4 = .ok (.iload_n 2, 1) := by decide +kernel
theorem d_M_valueOf_5 : decode (rm_code mM_valueOf) 5 = .ok (.bipush (16), 2) := by decide +kernel
theorem d_M_valueOf_7 : decode (rm_code mM_valueOf) 7 = .ok (.if_icmp .ge (19), 3) := by decide +kernel
theorem d_M_valueOf_10 : decode (rm_code mM_valueOf) 10 = .ok (.iload_n 2, 1) := by decide +kernel
theorem d_M_valueOf_11 : decode (rm_code mM_valueOf) 11 = .ok (.invokestatic 68, 3) := by decide +kernel
theorem d_M_valueOf_14 : decode (rm_code mM_valueOf) 14 = .ok (.iload_n 0, 1) := by decide +kernel
theorem d_M_valueOf_15 : decode (rm_code mM_valueOf) 15 = .ok (.if_icmp .ne (5), 3) := by decide +kernel
theorem d_M_valueOf_18 : decode (rm_code mM_valueOf) 18 = .ok (.iload_n 2, 1) := by decide +kernel
theorem d_M_valueOf_19 : decode (rm_code mM_valueOf) 19 = .ok (.istore_n 1, 1) := by decide +kernel
theorem d_M_valueOf_20 : decode (rm_code mM_valueOf) 20 = .ok (.iinc 2 (1), 3) := by decide +kernel
theorem d_M_valueOf_23 : decode (rm_code mM_valueOf) 23 = .ok (.goto (-19), 3) := by decide +kernel
theorem d_M_valueOf_26 : decode (rm_code mM_valueOf) 26 = .ok (.iload_n 1, 1) := by decide +kernel
theorem d_M_valueOf_27 : decode (rm_code mM_valueOf) 27 = .ok (.ireturn, 1) := by decide +kernel
theorem p_M_valueOf_0 {S : rz_S} {K : Int32 → rz_S → Prop} {a0 : Int32} (w : rz mM_valueOf 4 [(0, .int a0), (1, .int (-1)), (2, .int 0)] [] S (rz_i K)) : rz mM_valueOf 0 [(0, .int a0)] [] S (rz_i K) := by
  refine rz_iconst (v := -1) d_M_valueOf_0 (by decide) ?_
  refine rz_pure (pc' := 2) (l' := [(1, .int (-1)), (0, .int a0)]) d_M_valueOf_1 rfl ?_
  refine rz_iconst (v := 0) d_M_valueOf_2 (by decide) ?_
  refine rz_pure (pc' := 4) (l' := [(2, .int 0), (1, .int (-1)), (0, .int a0)]) d_M_valueOf_3 rfl ?_
  exact rz_pick (ks := [0, 1, 2]) (l := [(0, .int a0), (1, .int (-1)), (2, .int 0)]) rfl rfl (by decide) rfl w
theorem p_M_valueOf_4 {S : rz_S} {K : Int32 → rz_S → Prop} {a0 : Int32} {a1 : Int32} {a2 : Int32} (w : ((16 ≤ a2 → K a1 S) ∧ (¬ 16 ≤ a2 → rz_ev mM_groupOf [.int a2] S (rz_i (fun xq2 Sq2 => ((xq2 = a0 → rz mM_valueOf 4 [(0, .int a0), (1, .int a2), (2, .int (a2 + 1))] [] Sq2 (rz_i K)) ∧ (¬ xq2 = a0 → rz mM_valueOf 4 [(0, .int a0), (1, .int a1), (2, .int (a2 + 1))] [] Sq2 (rz_i K)))))))) : rz mM_valueOf 4 [(0, .int a0), (1, .int a1), (2, .int a2)] [] S (rz_i K) := by
  refine rz_pure (pc' := 5) d_M_valueOf_4 rfl ?_
  refine rz_bipush (v := 16) d_M_valueOf_5 (by decide) ?_
  refine rz_icmpge (tgt := 26) d_M_valueOf_7 rfl (fun b1 => ?_) (fun b1 => ?_)
  · skip
    refine rz_pure (pc' := 27) d_M_valueOf_26 rfl ?_
    exact rz_ireti d_M_valueOf_27 rfl rfl (w.1 b1)
  · skip
    refine rz_pure (pc' := 11) d_M_valueOf_10 rfl ?_
    refine rz_callSi (t := [.int a2]) d_M_valueOf_11 rfl w_12_68 rfl rfl (w.2 b1) (fun xq2 Sq2 q2 => ?_)
    refine rz_pure (pc' := 15) d_M_valueOf_14 rfl ?_
    refine rz_icmpne (tgt := 20) d_M_valueOf_15 rfl (fun b3 => ?_) (fun b3 => ?_)
    · skip
      refine rz_pure (pc' := 23) (l' := [(2, .int (a2 + 1)), (0, .int a0), (1, .int a1)]) d_M_valueOf_20 rfl ?_
      refine rz_pure (pc' := 4) d_M_valueOf_23 rfl ?_
      exact rz_pick (ks := [0, 1, 2]) (l := [(0, .int a0), (1, .int a1), (2, .int (a2 + 1))]) rfl rfl (by decide) rfl (q2.2 b3)
    · skip
      refine rz_pure (pc' := 19) d_M_valueOf_18 rfl ?_
      refine rz_pure (pc' := 20) (l' := [(1, .int a2), (0, .int a0), (2, .int a2)]) d_M_valueOf_19 rfl ?_
      refine rz_pure (pc' := 23) (l' := [(2, .int (a2 + 1)), (1, .int a2), (0, .int a0)]) d_M_valueOf_20 rfl ?_
      refine rz_pure (pc' := 4) d_M_valueOf_23 rfl ?_
      exact rz_pick (ks := [0, 1, 2]) (l := [(0, .int a0), (1, .int a2), (2, .int (a2 + 1))]) rfl rfl (by decide) rfl (q2.1 b3)
theorem d_M_codes_0 : decode (rm_code mM_codes) 0 = .ok (.iconst 0, 1) := by decide +kernel
theorem d_M_codes_1 : decode (rm_code mM_codes) 1 = .ok (.istore_n 2, 1) := by decide +kernel
theorem d_M_codes_2 : decode (rm_code mM_codes) 2 = .ok (.iconst 0, 1) := by decide +kernel
theorem d_M_codes_3 : decode (rm_code mM_codes) 3 = .ok (.istore_n 3, 1) := by decide +kernel
theorem d_M_codes_4 : decode (rm_code mM_codes) 4 = .ok (.iconst 0, 1) := by decide +kernel
theorem d_M_codes_5 : decode (rm_code mM_codes) 5 = .ok (.istore 4, 2) := by decide +kernel
theorem d_M_codes_7 : decode (rm_code mM_codes) 7 = .ok (.iconst 0, 1) := by decide +kernel
theorem d_M_codes_8 : decode (rm_code mM_codes) 8 = .ok (.istore 5, 2) := by decide +kernel
theorem d_M_codes_10 : decode (rm_code mM_codes) 10 = .ok (.iload 5, 2) := by decide +kernel
theorem d_M_codes_12 : decode (rm_code mM_codes) 12 = .ok (.iconst 2, 1) := by decide +kernel
theorem d_M_codes_13 : decode (rm_code mM_codes) 13 = .ok (.iload_n 1, 1) := by decide +kernel
theorem d_M_codes_14 : decode (rm_code mM_codes) 14 = .ok (.imul, 1) := by decide +kernel
theorem d_M_codes_15 : decode (rm_code mM_codes) 15 = .ok (.if_icmp .ge (97), 3) := by decide +kernel
theorem d_M_codes_18 : decode (rm_code mM_codes) 18 = .ok (.iload 5, 2) := by decide +kernel
theorem d_M_codes_20 : decode (rm_code mM_codes) 20 = .ok (.iconst 2, 1) := by decide +kernel
theorem d_M_codes_21 : decode (rm_code mM_codes) 21 = .ok (.irem, 1) := by decide +kernel
theorem d_M_codes_22 : decode (rm_code mM_codes) 22 = .ok (.ifCond .ne (17), 3) := by decide +kernel
theorem d_M_codes_25 : decode (rm_code mM_codes) 25 = .ok (.aload_n 0, 1) := by decide +kernel
theorem d_M_codes_26 : decode (rm_code mM_codes) 26 = .ok (.getfield 71, 3) := by decide +kernel
theorem d_M_codes_29 : decode (rm_code mM_codes) 29 = .ok (.iload 5, 2) := by decide +kernel
theorem d_M_codes_31 : decode (rm_code mM_codes) 31 = .ok (.iconst 2, 1) := by decide +kernel
theorem d_M_codes_32 : decode (rm_code mM_codes) 32 = .ok (.idiv, 1) := by decide +kernel
theorem d_M_codes_33 : decode (rm_code mM_codes) 33 = .ok (.iaload, 1) := by decide +kernel
theorem d_M_codes_34 : decode (rm_code mM_codes) 34 = .ok (.iconst 4, 1) := by decide +kernel
theorem d_M_codes_35 : decode (rm_code mM_codes) 35 = .ok (.ishr, 1) := by decide +kernel
theorem d_M_codes_36 : decode (rm_code mM_codes) 36 = .ok (.goto (15), 3) := by decide +kernel
theorem d_M_codes_39 : decode (rm_code mM_codes) 39 = .ok (.aload_n 0, 1) := by decide +kernel
theorem d_M_codes_40 : decode (rm_code mM_codes) 40 = .ok (.getfield 71, 3) := by decide +kernel
theorem d_M_codes_43 : decode (rm_code mM_codes) 43 = .ok (.iload 5, 2) := by decide +kernel
theorem d_M_codes_45 : decode (rm_code mM_codes) 45 = .ok (.iconst 2, 1) := by decide +kernel
theorem d_M_codes_46 : decode (rm_code mM_codes) 46 = .ok (.idiv, 1) := by decide +kernel
theorem d_M_codes_47 : decode (rm_code mM_codes) 47 = .ok (.iaload, 1) := by decide +kernel
theorem d_M_codes_48 : decode (rm_code mM_codes) 48 = .ok (.bipush (15), 2) := by decide +kernel
theorem d_M_codes_50 : decode (rm_code mM_codes) 50 = .ok (.iand, 1) := by decide +kernel
theorem d_M_codes_51 : decode (rm_code mM_codes) 51 = .ok (.istore 6, 2) := by decide +kernel
theorem d_M_codes_53 : decode (rm_code mM_codes) 53 = .ok (.iload_n 2, 1) := by decide +kernel
theorem d_M_codes_54 : decode (rm_code mM_codes) 54 = .ok (.iconst 5, 1) := by decide +kernel
theorem d_M_codes_55 : decode (rm_code mM_codes) 55 = .ok (.ishl, 1) := by decide +kernel
theorem d_M_codes_56 : decode (rm_code mM_codes) 56 = .ok (.iload 6, 2) := by decide +kernel
theorem d_M_codes_58 : decode (rm_code mM_codes) 58 = .ok (.invokestatic 68, 3) := by decide +kernel
theorem d_M_codes_61 : decode (rm_code mM_codes) 61 = .ok (.ior, 1) := by decide +kernel
theorem d_M_codes_62 : decode (rm_code mM_codes) 62 = .ok (.istore_n 2, 1) := by decide +kernel
theorem d_M_codes_63 : decode (rm_code mM_codes) 63 = .ok (.iload_n 3, 1) := by decide +kernel
theorem d_M_codes_64 : decode (rm_code mM_codes) 64 = .ok (.iconst 5, 1) := by decide +kernel
theorem d_M_codes_65 : decode (rm_code mM_codes) 65 = .ok (.iadd, 1) := by decide +kernel
theorem d_M_codes_66 : decode (rm_code mM_codes) 66 = .ok (.istore_n 3, 1) := by decide +kernel
theorem d_M_codes_67 : decode (rm_code mM_codes) 67 = .ok (.iload_n 3, 1) := by decide +kernel
theorem d_M_codes_68 : decode (rm_code mM_codes) 68 = .ok (.bipush (8), 2) := by decide +kernel
theorem d_M_codes_70 : decode (rm_code mM_codes) 70 = .ok (.if_icmp .lt (36), 3) := by decide +kernel
theorem d_M_codes_73 : decode (rm_code mM_codes) 73 = .ok (.iload_n 3, 1) := by decide +kernel
theorem d_M_codes_74 : decode (rm_code mM_codes) 74 = .ok (.bipush (8), 2) := by decide +kernel
theorem d_M_codes_76 : decode (rm_code mM_codes) 76 = .ok (.isub, 1) := by decide +kernel
theorem d_M_codes_77 : decode (rm_code mM_codes) 77 = .ok (.istore_n 3, 1) := by decide +kernel
theorem d_M_codes_78 : decode (rm_code mM_codes) 78 = .ok (.aload_n 0, 1) := by decide +kernel
theorem d_M_codes_79 : decode (rm_code mM_codes) 79 = .ok (.getfield 74, 3) := by decide +kernel
theorem d_M_codes_82 : decode (rm_code mM_codes) 82 = .ok (.iload 4, 2) := by decide +kernel
theorem d_M_codes_84 : decode (rm_code mM_codes) 84 = .ok (.iload_n 2, 1) := by decide +kernel
theorem d_M_codes_85 : decode (rm_code mM_codes) 85 = .ok (.iload_n 3, 1) := by decide +kernel
theorem d_M_codes_86 : decode (rm_code mM_codes) 86 = .ok (.ishr, 1) := by decide +kernel
theorem d_M_codes_87 : decode (rm_code mM_codes) 87 = .ok (.sipush (255), 3) := by decide +kernel
theorem d_M_codes_90 : decode (rm_code mM_codes) 90 = .ok (.iand, 1) := by decide +kernel
theorem d_M_codes_91 : decode (rm_code mM_codes) 91 = .ok (.iastore, 1) := by decide +kernel
theorem d_M_codes_92 : decode (rm_code mM_codes) 92 = .ok (.iload_n 2, 1) := by decide +kernel
theorem d_M_codes_93 : decode (rm_code mM_codes) 93 = .ok (.iconst 1, 1) := by decide +kernel
theorem d_M_codes_94 : decode (rm_code mM_codes) 94 = .ok (.iload_n 3, 1) := by decide +kernel
theorem d_M_codes_95 : decode (rm_code mM_codes) 95 = .ok (.ishl, 1) := by decide +kernel
theorem d_M_codes_96 : decode (rm_code mM_codes) 96 = .ok (.iconst 1, 1) := by decide +kernel
theorem d_M_codes_97 : decode (rm_code mM_codes) 97 = .ok (.isub, 1) := by decide +kernel
theorem d_M_codes_98 : decode (rm_code mM_codes) 98 = .ok (.iand, 1) := by decide +kernel
theorem d_M_codes_99 : decode (rm_code mM_codes) 99 = .ok (.istore_n 2, 1) := by decide +kernel
theorem d_M_codes_100 : decode (rm_code mM_codes) 100 = .ok (.iload 4, 2) := by decide +kernel
theorem d_M_codes_102 : decode (rm_code mM_codes) 102 = .ok (.iconst 1, 1) := by decide +kernel
theorem d_M_codes_103 : decode (rm_code mM_codes) 103 = .ok (.iadd, 1) := by decide +kernel
theorem d_M_codes_104 : decode (rm_code mM_codes) 104 = .ok (.istore 4, 2) := by decide +kernel
theorem d_M_codes_106 : decode (rm_code mM_codes) 106 = .ok (.iinc 5 (1), 3) := by decide +kernel
theorem d_M_codes_109 : decode (rm_code mM_codes) 109 = .ok (.goto (-99), 3) := by decide +kernel
theorem d_M_codes_112 : decode (rm_code mM_codes) 112 = .ok (.return_, 1) := by decide +kernel
theorem p_M_codes_0 {S : rz_S} {K : rz_S → Prop} {a1 : Int32} (w : rz mM_codes 10 [(0, .ref 116), (1, .int a1), (2, .int 0), (3, .int 0), (4, .int 0), (5, .int 0)] [] S (rz_v K)) : rz mM_codes 0 [(0, .ref 116), (1, .int a1)] [] S (rz_v K) := by
  refine rz_iconst (v := 0) d_M_codes_0 (by decide) ?_
  refine rz_pure (pc' := 2) (l' := [(2, .int 0), (0, .ref 116), (1, .int a1)]) d_M_codes_1 rfl ?_
  refine rz_iconst (v := 0) d_M_codes_2 (by decide) ?_
  refine rz_pure (pc' := 4) (l' := [(3, .int 0), (2, .int 0), (0, .ref 116), (1, .int a1)]) d_M_codes_3 rfl ?_
  refine rz_iconst (v := 0) d_M_codes_4 (by decide) ?_
  refine rz_pure (pc' := 7) (l' := [(4, .int 0), (3, .int 0), (2, .int 0), (0, .ref 116), (1, .int a1)]) d_M_codes_5 rfl ?_
  refine rz_iconst (v := 0) d_M_codes_7 (by decide) ?_
  refine rz_pure (pc' := 10) (l' := [(5, .int 0), (4, .int 0), (3, .int 0), (2, .int 0), (0, .ref 116), (1, .int a1)]) d_M_codes_8 rfl ?_
  exact rz_pick (ks := [0, 1, 2, 3, 4, 5]) (l := [(0, .ref 116), (1, .int a1), (2, .int 0), (3, .int 0), (4, .int 0), (5, .int 0)]) rfl rfl (by decide) rfl w
theorem p_M_codes_10 {S : rz_S} {K : rz_S → Prop} {a1 : Int32} {a2 : Int32} {a3 : Int32} {a4 : Int32} {a5 : Int32} (w : ((2 * a1 ≤ a5 → K S) ∧ (¬ 2 * a1 ≤ a5 → ((a5 - a5 / 2 * 2 = 0 → rx_in (a5 / 2) 68 = true ∧ rz mM_codes 51 [(0, .ref 116), (1, .int a1), (2, .int a2), (3, .int a3), (4, .int a4), (5, .int a5)] [.int ((S.1 119 ((a5 / 2).toNatClampNeg)) >>> ((4 : Int32) &&& 31))] S (rz_v K)) ∧ (¬ a5 - a5 / 2 * 2 = 0 → rx_in (a5 / 2) 68 = true ∧ rz mM_codes 51 [(0, .ref 116), (1, .int a1), (2, .int a2), (3, .int a3), (4, .int a4), (5, .int a5)] [.int ((S.1 119 ((a5 / 2).toNatClampNeg)) &&& 15)] S (rz_v K)))))) : rz mM_codes 10 [(0, .ref 116), (1, .int a1), (2, .int a2), (3, .int a3), (4, .int a4), (5, .int a5)] [] S (rz_v K) := by
  refine rz_pure (pc' := 12) d_M_codes_10 rfl ?_
  refine rz_iconst (v := 2) d_M_codes_12 (by decide) ?_
  refine rz_pure (pc' := 14) d_M_codes_13 rfl ?_
  refine rz_imul d_M_codes_14 ?_
  refine rz_icmpge (tgt := 112) d_M_codes_15 rfl (fun b1 => ?_) (fun b1 => ?_)
  · skip
    exact rz_vretv d_M_codes_112 rfl (w.1 b1)
  · skip
    refine rz_pure (pc' := 20) d_M_codes_18 rfl ?_
    refine rz_iconst (v := 2) d_M_codes_20 (by decide) ?_
    refine rz_irem d_M_codes_21 (by decide) ?_
    refine rz_ifne (tgt := 39) d_M_codes_22 rfl (fun b2 => ?_) (fun b2 => ?_)
    · skip
      refine rz_pure (pc' := 40) d_M_codes_39 rfl ?_
      refine rz_getr d_M_codes_40 f_12_71 rfl rfl ?_
      refine rz_pure (pc' := 45) d_M_codes_43 rfl ?_
      refine rz_iconst (v := 2) d_M_codes_45 (by decide) ?_
      refine rz_idiv d_M_codes_46 (by decide) ?_
      refine rz_ialdv (F := S.1 119) (i := (a5 / 2).toNatClampNeg) d_M_codes_47 rfl ((w.2 b1).2 b2).1 rfl rfl ?_
      refine rz_bipush (v := 15) d_M_codes_48 (by decide) ?_
      refine rz_iand d_M_codes_50 ?_
      exact rz_pick (ks := [0, 1, 2, 3, 4, 5]) (l := [(0, .ref 116), (1, .int a1), (2, .int a2), (3, .int a3), (4, .int a4), (5, .int a5)]) rfl rfl (by decide) rfl ((w.2 b1).2 b2).2
    · skip
      refine rz_pure (pc' := 26) d_M_codes_25 rfl ?_
      refine rz_getr d_M_codes_26 f_12_71 rfl rfl ?_
      refine rz_pure (pc' := 31) d_M_codes_29 rfl ?_
      refine rz_iconst (v := 2) d_M_codes_31 (by decide) ?_
      refine rz_idiv d_M_codes_32 (by decide) ?_
      refine rz_ialdv (F := S.1 119) (i := (a5 / 2).toNatClampNeg) d_M_codes_33 rfl ((w.2 b1).1 b2).1 rfl rfl ?_
      refine rz_iconst (v := 4) d_M_codes_34 (by decide) ?_
      refine rz_ishr d_M_codes_35 ?_
      refine rz_pure (pc' := 51) d_M_codes_36 rfl ?_
      exact rz_pick (ks := [0, 1, 2, 3, 4, 5]) (l := [(0, .ref 116), (1, .int a1), (2, .int a2), (3, .int a3), (4, .int a4), (5, .int a5)]) rfl rfl (by decide) rfl ((w.2 b1).1 b2).2
theorem p_M_codes_51 {S : rz_S} {K : rz_S → Prop} {a1 : Int32} {a2 : Int32} {a3 : Int32} {a4 : Int32} {a5 : Int32} {s0 : Int32} (w : rz_ev mM_groupOf [.int s0] S (rz_i (fun xq1 Sq1 => ((a3 + 5 < 8 → rz mM_codes 10 [(0, .ref 116), (1, .int a1), (2, .int ((a2 <<< ((5 : Int32) &&& 31)) ||| xq1)), (3, .int (a3 + 5)), (4, .int a4), (5, .int (a5 + 1))] [] Sq1 (rz_v K)) ∧ (¬ a3 + 5 < 8 → rx_in a4 85 = true ∧ rz mM_codes 10 [(0, .ref 116), (1, .int a1), (2, .int (((a2 <<< ((5 : Int32) &&& 31)) ||| xq1) &&& ((1 <<< (((a3 + 5) - 8) &&& 31)) - 1))), (3, .int ((a3 + 5) - 8)), (4, .int (a4 + 1)), (5, .int (a5 + 1))] [] (rz_fA Sq1 120 (upd (Sq1.1 120) a4.toNatClampNeg ((((a2 <<< ((5 : Int32) &&& 31)) ||| xq1) >>> (((a3 + 5) - 8) &&& 31)) &&& 255))) (rz_v K)))))) : rz mM_codes 51 [(0, .ref 116), (1, .int a1), (2, .int a2), (3, .int a3), (4, .int a4), (5, .int a5)] [.int s0] S (rz_v K) := by
  refine rz_pure (pc' := 53) (l' := [(6, .int s0), (0, .ref 116), (1, .int a1), (2, .int a2), (3, .int a3), (4, .int a4), (5, .int a5)]) d_M_codes_51 rfl ?_
  refine rz_pure (pc' := 54) d_M_codes_53 rfl ?_
  refine rz_iconst (v := 5) d_M_codes_54 (by decide) ?_
  refine rz_ishl d_M_codes_55 ?_
  refine rz_pure (pc' := 58) d_M_codes_56 rfl ?_
  refine rz_callSi (t := [.int s0]) d_M_codes_58 rfl w_12_68 rfl rfl w (fun xq1 Sq1 q1 => ?_)
  refine rz_ior d_M_codes_61 ?_
  refine rz_pure (pc' := 63) (l' := [(2, .int ((a2 <<< ((5 : Int32) &&& 31)) ||| xq1)), (6, .int s0), (0, .ref 116), (1, .int a1), (3, .int a3), (4, .int a4), (5, .int a5)]) d_M_codes_62 rfl ?_
  refine rz_pure (pc' := 64) d_M_codes_63 rfl ?_
  refine rz_iconst (v := 5) d_M_codes_64 (by decide) ?_
  refine rz_iadd d_M_codes_65 ?_
  refine rz_pure (pc' := 67) (l' := [(3, .int (a3 + 5)), (2, .int ((a2 <<< ((5 : Int32) &&& 31)) ||| xq1)), (6, .int s0), (0, .ref 116), (1, .int a1), (4, .int a4), (5, .int a5)]) d_M_codes_66 rfl ?_
  refine rz_pure (pc' := 68) d_M_codes_67 rfl ?_
  refine rz_bipush (v := 8) d_M_codes_68 (by decide) ?_
  refine rz_icmplt (tgt := 106) d_M_codes_70 rfl (fun b2 => ?_) (fun b2 => ?_)
  · skip
    refine rz_pure (pc' := 109) (l' := [(5, .int (a5 + 1)), (3, .int (a3 + 5)), (2, .int ((a2 <<< ((5 : Int32) &&& 31)) ||| xq1)), (6, .int s0), (0, .ref 116), (1, .int a1), (4, .int a4)]) d_M_codes_106 rfl ?_
    refine rz_pure (pc' := 10) d_M_codes_109 rfl ?_
    exact rz_pick (ks := [0, 1, 2, 3, 4, 5]) (l := [(0, .ref 116), (1, .int a1), (2, .int ((a2 <<< ((5 : Int32) &&& 31)) ||| xq1)), (3, .int (a3 + 5)), (4, .int a4), (5, .int (a5 + 1))]) rfl rfl (by decide) rfl (q1.1 b2)
  · skip
    refine rz_pure (pc' := 74) d_M_codes_73 rfl ?_
    refine rz_bipush (v := 8) d_M_codes_74 (by decide) ?_
    refine rz_isub d_M_codes_76 ?_
    refine rz_pure (pc' := 78) (l' := [(3, .int ((a3 + 5) - 8)), (2, .int ((a2 <<< ((5 : Int32) &&& 31)) ||| xq1)), (6, .int s0), (0, .ref 116), (1, .int a1), (4, .int a4), (5, .int a5)]) d_M_codes_77 rfl ?_
    refine rz_pure (pc' := 79) d_M_codes_78 rfl ?_
    refine rz_getr d_M_codes_79 f_12_74 rfl rfl ?_
    refine rz_pure (pc' := 84) d_M_codes_82 rfl ?_
    refine rz_pure (pc' := 85) d_M_codes_84 rfl ?_
    refine rz_pure (pc' := 86) d_M_codes_85 rfl ?_
    refine rz_ishr d_M_codes_86 ?_
    refine rz_sipush (v := 255) d_M_codes_87 (by decide) ?_
    refine rz_iand d_M_codes_90 ?_
    refine rz_iastv (F := Sq1.1 120) (i := a4.toNatClampNeg) d_M_codes_91 rfl (q1.2 b2).1 rfl rfl ?_
    refine rz_pure (pc' := 93) d_M_codes_92 rfl ?_
    refine rz_iconst (v := 1) d_M_codes_93 (by decide) ?_
    refine rz_pure (pc' := 95) d_M_codes_94 rfl ?_
    refine rz_ishl d_M_codes_95 ?_
    refine rz_iconst (v := 1) d_M_codes_96 (by decide) ?_
    refine rz_isub d_M_codes_97 ?_
    refine rz_iand d_M_codes_98 ?_
    refine rz_pure (pc' := 100) (l' := [(2, .int (((a2 <<< ((5 : Int32) &&& 31)) ||| xq1) &&& ((1 <<< (((a3 + 5) - 8) &&& 31)) - 1))), (3, .int ((a3 + 5) - 8)), (6, .int s0), (0, .ref 116), (1, .int a1), (4, .int a4), (5, .int a5)]) d_M_codes_99 rfl ?_
    refine rz_pure (pc' := 102) d_M_codes_100 rfl ?_
    refine rz_iconst (v := 1) d_M_codes_102 (by decide) ?_
    refine rz_iadd d_M_codes_103 ?_
    refine rz_pure (pc' := 106) (l' := [(4, .int (a4 + 1)), (2, .int (((a2 <<< ((5 : Int32) &&& 31)) ||| xq1) &&& ((1 <<< (((a3 + 5) - 8) &&& 31)) - 1))), (3, .int ((a3 + 5) - 8)), (6, .int s0), (0, .ref 116), (1, .int a1), (5, .int a5)]) d_M_codes_104 rfl ?_
    refine rz_pure (pc' := 109) (l' := [(5, .int (a5 + 1)), (4, .int (a4 + 1)), (2, .int (((a2 <<< ((5 : Int32) &&& 31)) ||| xq1) &&& ((1 <<< (((a3 + 5) - 8) &&& 31)) - 1))), (3, .int ((a3 + 5) - 8)), (6, .int s0), (0, .ref 116), (1, .int a1)]) d_M_codes_106 rfl ?_
    refine rz_pure (pc' := 10) d_M_codes_109 rfl ?_
    exact rz_pick (ks := [0, 1, 2, 3, 4, 5]) (l := [(0, .ref 116), (1, .int a1), (2, .int (((a2 <<< ((5 : Int32) &&& 31)) ||| xq1) &&& ((1 <<< (((a3 + 5) - 8) &&& 31)) - 1))), (3, .int ((a3 + 5) - 8)), (4, .int (a4 + 1)), (5, .int (a5 + 1))]) rfl rfl (by decide) rfl (q1.2 b2).2
theorem d_M_group_0 : decode (rm_code mM_group) 0 = .ok (.iconst 0, 1) := by decide +kernel
theorem d_M_group_1 : decode (rm_code mM_group) 1 = .ok (.istore_n 2, 1) := by decide +kernel
theorem d_M_group_2 : decode (rm_code mM_group) 2 = .ok (.iconst 5, 1) := by decide +kernel
theorem d_M_group_3 : decode (rm_code mM_group) 3 = .ok (.iload_n 1, 1) := by decide +kernel
theorem d_M_group_4 : decode (rm_code mM_group) 4 = .ok (.imul, 1) := by decide +kernel
theorem d_M_group_5 : decode (rm_code mM_group) 5 = .ok (.istore_n 3, 1) := by decide +kernel
theorem d_M_group_6 : decode (rm_code mM_group) 6 = .ok (.iload_n 3, 1) := by decide +kernel
theorem d_M_group_7 : decode (rm_code mM_group) 7 = .ok (.iconst 5, 1) := by decide +kernel
theorem d_M_group_8 : decode (rm_code mM_group) 8 = .ok (.iload_n 1, 1) := by decide +kernel
theorem d_M_group_9 : decode (rm_code mM_group) 9 = .ok (.imul, 1) := by decide +kernel
theorem d_M_group_10 : decode (rm_code mM_group) 10 = .ok (.iconst 5, 1) := by decide +kernel
theorem d_M_group_11 : decode (rm_code mM_group) 11 = .ok (.iadd, 1) := by decide +kernel
theorem d_M_group_12 : decode (rm_code mM_group) 12 = .ok (.if_icmp .ge (32), 3) := by decide +kernel
theorem d_M_group_15 : decode (rm_code mM_group) 15 = .ok (.iload_n 2, 1) := by decide +kernel
theorem d_M_group_16 : decode (rm_code mM_group) 16 = .ok (.iconst 1, 1) := by decide +kernel
theorem d_M_group_17 : decode (rm_code mM_group) 17 = .ok (.ishl, 1) := by decide +kernel
theorem d_M_group_18 : decode (rm_code mM_group) 18 = .ok (.aload_n 0, 1) := by decide +kernel
theorem d_M_group_19 : decode (rm_code mM_group) 19 = .ok (.getfield 74, 3) := by decide +kernel
theorem d_M_group_22 : decode (rm_code mM_group) 22 = .ok (.iload_n 3, 1) := by decide +kernel
theorem d_M_group_23 : decode (rm_code mM_group) 23 = .ok (.iconst 3, 1) := by decide +kernel
theorem d_M_group_24 : decode (rm_code mM_group) 24 = .ok (.ishr, 1) := by decide +kernel
theorem d_M_group_25 : decode (rm_code mM_group) 25 = .ok (.iaload, 1) := by decide +kernel
theorem d_M_group_26 : decode (rm_code mM_group) 26 = .ok (.bipush (7), 2) := by decide +kernel
theorem d_M_group_28 : decode (rm_code mM_group) 28 = .ok (.iload_n 3, 1) := by decide +kernel
theorem d_M_group_29 : decode (rm_code mM_group) 29 = .ok (.bipush (7), 2) := by decide +kernel
theorem d_M_group_31 : decode (rm_code mM_group) 31 = .ok (.iand, 1) := by decide +kernel
theorem d_M_group_32 : decode (rm_code mM_group) 32 = .ok (.isub, 1) := by decide +kernel
theorem d_M_group_33 : decode (rm_code mM_group) 33 = .ok (.ishr, 1) := by decide +kernel
theorem d_M_group_34 : decode (rm_code mM_group) 34 = .ok (.iconst 1, 1) := by decide +kernel
theorem d_M_group_35 : decode (rm_code mM_group) 35 = .ok (.iand, 1) := by decide +kernel
theorem d_M_group_36 : decode (rm_code mM_group) 36 = .ok (.ior, 1) := by decide +kernel
theorem d_M_group_37 : decode (rm_code mM_group) 37 = .ok (.istore_n 2, 1) := by decide +kernel
theorem d_M_group_38 : decode (rm_code mM_group) 38 = .ok (.iinc 3 (1), 3) := by decide +kernel
theorem d_M_group_41 : decode (rm_code mM_group) 41 = .ok (.goto (-35), 3) := by decide +kernel
theorem d_M_group_44 : decode (rm_code mM_group) 44 = .ok (.iload_n 2, 1) := by decide +kernel
theorem d_M_group_45 : decode (rm_code mM_group) 45 = .ok (.ireturn, 1) := by decide +kernel
theorem p_M_group_0 {S : rz_S} {K : Int32 → rz_S → Prop} {a1 : Int32} (w : rz mM_group 6 [(0, .ref 116), (1, .int a1), (2, .int 0), (3, .int (5 * a1))] [] S (rz_i K)) : rz mM_group 0 [(0, .ref 116), (1, .int a1)] [] S (rz_i K) := by
  refine rz_iconst (v := 0) d_M_group_0 (by decide) ?_
  refine rz_pure (pc' := 2) (l' := [(2, .int 0), (0, .ref 116), (1, .int a1)]) d_M_group_1 rfl ?_
  refine rz_iconst (v := 5) d_M_group_2 (by decide) ?_
  refine rz_pure (pc' := 4) d_M_group_3 rfl ?_
  refine rz_imul d_M_group_4 ?_
  refine rz_pure (pc' := 6) (l' := [(3, .int (5 * a1)), (2, .int 0), (0, .ref 116), (1, .int a1)]) d_M_group_5 rfl ?_
  exact rz_pick (ks := [0, 1, 2, 3]) (l := [(0, .ref 116), (1, .int a1), (2, .int 0), (3, .int (5 * a1))]) rfl rfl (by decide) rfl w
theorem p_M_group_6 {S : rz_S} {K : Int32 → rz_S → Prop} {a1 : Int32} {a2 : Int32} {a3 : Int32} (w : (((5 * a1) + 5 ≤ a3 → K a2 S) ∧ (¬ (5 * a1) + 5 ≤ a3 → rx_in (a3 >>> ((3 : Int32) &&& 31)) 85 = true ∧ rz mM_group 6 [(0, .ref 116), (1, .int a1), (2, .int ((a2 <<< ((1 : Int32) &&& 31)) ||| (((S.1 120 ((a3 >>> ((3 : Int32) &&& 31)).toNatClampNeg)) >>> ((7 - (a3 &&& 7)) &&& 31)) &&& 1))), (3, .int (a3 + 1))] [] S (rz_i K)))) : rz mM_group 6 [(0, .ref 116), (1, .int a1), (2, .int a2), (3, .int a3)] [] S (rz_i K) := by
  refine rz_pure (pc' := 7) d_M_group_6 rfl ?_
  refine rz_iconst (v := 5) d_M_group_7 (by decide) ?_
  refine rz_pure (pc' := 9) d_M_group_8 rfl ?_
  refine rz_imul d_M_group_9 ?_
  refine rz_iconst (v := 5) d_M_group_10 (by decide) ?_
  refine rz_iadd d_M_group_11 ?_
  refine rz_icmpge (tgt := 44) d_M_group_12 rfl (fun b1 => ?_) (fun b1 => ?_)
  · skip
    refine rz_pure (pc' := 45) d_M_group_44 rfl ?_
    exact rz_ireti d_M_group_45 rfl rfl (w.1 b1)
  · skip
    refine rz_pure (pc' := 16) d_M_group_15 rfl ?_
    refine rz_iconst (v := 1) d_M_group_16 (by decide) ?_
    refine rz_ishl d_M_group_17 ?_
    refine rz_pure (pc' := 19) d_M_group_18 rfl ?_
    refine rz_getr d_M_group_19 f_12_74 rfl rfl ?_
    refine rz_pure (pc' := 23) d_M_group_22 rfl ?_
    refine rz_iconst (v := 3) d_M_group_23 (by decide) ?_
    refine rz_ishr d_M_group_24 ?_
    refine rz_ialdv (F := S.1 120) (i := (a3 >>> ((3 : Int32) &&& 31)).toNatClampNeg) d_M_group_25 rfl (w.2 b1).1 rfl rfl ?_
    refine rz_bipush (v := 7) d_M_group_26 (by decide) ?_
    refine rz_pure (pc' := 29) d_M_group_28 rfl ?_
    refine rz_bipush (v := 7) d_M_group_29 (by decide) ?_
    refine rz_iand d_M_group_31 ?_
    refine rz_isub d_M_group_32 ?_
    refine rz_ishr d_M_group_33 ?_
    refine rz_iconst (v := 1) d_M_group_34 (by decide) ?_
    refine rz_iand d_M_group_35 ?_
    refine rz_ior d_M_group_36 ?_
    refine rz_pure (pc' := 38) (l' := [(2, .int ((a2 <<< ((1 : Int32) &&& 31)) ||| (((S.1 120 ((a3 >>> ((3 : Int32) &&& 31)).toNatClampNeg)) >>> ((7 - (a3 &&& 7)) &&& 31)) &&& 1))), (0, .ref 116), (1, .int a1), (3, .int a3)]) d_M_group_37 rfl ?_
    refine rz_pure (pc' := 41) (l' := [(3, .int (a3 + 1)), (2, .int ((a2 <<< ((1 : Int32) &&& 31)) ||| (((S.1 120 ((a3 >>> ((3 : Int32) &&& 31)).toNatClampNeg)) >>> ((7 - (a3 &&& 7)) &&& 31)) &&& 1))), (0, .ref 116), (1, .int a1)]) d_M_group_38 rfl ?_
    refine rz_pure (pc' := 6) d_M_group_41 rfl ?_
    exact rz_pick (ks := [0, 1, 2, 3]) (l := [(0, .ref 116), (1, .int a1), (2, .int ((a2 <<< ((1 : Int32) &&& 31)) ||| (((S.1 120 ((a3 >>> ((3 : Int32) &&& 31)).toNatClampNeg)) >>> ((7 - (a3 &&& 7)) &&& 31)) &&& 1))), (3, .int (a3 + 1))]) rfl rfl (by decide) rfl (w.2 b1).2
theorem d_M_reads_0 : decode (rm_code mM_reads) 0 = .ok (.iconst 1, 1) := by decide +kernel
theorem d_M_reads_1 : decode (rm_code mM_reads) 1 = .ok (.istore_n 2, 1) := by decide +kernel
theorem d_M_reads_2 : decode (rm_code mM_reads) 2 = .ok (.iconst 0, 1) := by decide +kernel
theorem d_M_reads_3 : decode (rm_code mM_reads) 3 = .ok (.istore_n 3, 1) := by decide +kernel
theorem d_M_reads_4 : decode (rm_code mM_reads) 4 = .ok (.iload_n 3, 1) := by decide +kernel
theorem d_M_reads_5 : decode (rm_code mM_reads) 5 = .ok (.iload_n 1, 1) := by decide +kernel
theorem d_M_reads_6 : decode (rm_code mM_reads) 6 = .ok (.if_icmp .ge (73), 3) := by decide +kernel
theorem d_M_reads_9 : decode (rm_code mM_reads) 9 = .ok (.aload_n 0, 1) := by decide +kernel
theorem d_M_reads_10 : decode (rm_code mM_reads) 10 = .ok (.iload_n 3, 1) := by decide +kernel
theorem d_M_reads_11 : decode (rm_code mM_reads) 11 = .ok (.invokevirtual 77, 3) := by decide +kernel
theorem d_M_reads_14 : decode (rm_code mM_reads) 14 = .ok (.invokestatic 80, 3) := by decide +kernel
theorem d_M_reads_17 : decode (rm_code mM_reads) 17 = .ok (.istore 4, 2) := by decide +kernel
theorem d_M_reads_19 : decode (rm_code mM_reads) 19 = .ok (.iload_n 2, 1) := by decide +kernel
theorem d_M_reads_20 : decode (rm_code mM_reads) 20 = .ok (.ifCond .eq (13), 3) := by decide +kernel
theorem d_M_reads_23 : decode (rm_code mM_reads) 23 = .ok (.iload 4, 2) := by decide +kernel
theorem d_M_reads_25 : decode (rm_code mM_reads) 25 = .ok (.iconst (-1), 1) := by decide +kernel
theorem d_M_reads_26 : decode (rm_code mM_reads) 26 = .ok (.if_icmp .eq (7), 3) := by decide +kernel
theorem d_M_reads_29 : decode (rm_code mM_reads) 29 = .ok (.iconst 1, 1) := by decide +kernel
theorem d_M_reads_30 : decode (rm_code mM_reads) 30 = .ok (.goto (4), 3) := by decide +kernel
theorem d_M_reads_33 : decode (rm_code mM_reads) 33 = .ok (.iconst 0, 1) := by decide +kernel
theorem d_M_reads_34 : decode (rm_code mM_reads) 34 = .ok (.istore_n 2, 1) := by decide +kernel
theorem d_M_reads_35 : decode (rm_code mM_reads) 35 = .ok (.iload_n 3, 1) := by decide +kernel
theorem d_M_reads_36 : decode (rm_code mM_reads) 36 = .ok (.iconst 2, 1) := by decide +kernel
theorem d_M_reads_37 : decode (rm_code mM_reads) 37 = .ok (.idiv, 1) := by decide +kernel
theorem d_M_reads_38 : decode (rm_code mM_reads) 38 = .ok (.istore 5, 2) := by decide +kernel
theorem d_M_reads_40 : decode (rm_code mM_reads) 40 = .ok (.aload_n 0, 1) := by decide +kernel
theorem d_M_reads_41 : decode (rm_code mM_reads) 41 = .ok (.getfield 71, 3) := by decide +kernel
theorem d_M_reads_44 : decode (rm_code mM_reads) 44 = .ok (.iload 5, 2) := by decide +kernel
theorem d_M_reads_46 : decode (rm_code mM_reads) 46 = .ok (.iload_n 3, 1) := by decide +kernel
theorem d_M_reads_47 : decode (rm_code mM_reads) 47 = .ok (.iconst 2, 1) := by decide +kernel
theorem d_M_reads_48 : decode (rm_code mM_reads) 48 = .ok (.irem, 1) := by decide +kernel
theorem d_M_reads_49 : decode (rm_code mM_reads) 49 = .ok (.ifCond .ne (10), 3) := by decide +kernel
theorem d_M_reads_52 : decode (rm_code mM_reads) 52 = .ok (.iload 4, 2) := by decide +kernel
theorem d_M_reads_54 : decode (rm_code mM_reads) 54 = .ok (.iconst 4, 1) := by decide +kernel
theorem d_M_reads_55 : decode (rm_code mM_reads) 55 = .ok (.ishl, 1) := by decide +kernel
theorem d_M_reads_56 : decode (rm_code mM_reads) 56 = .ok (.goto (16), 3) := by decide +kernel
theorem d_M_reads_59 : decode (rm_code mM_reads) 59 = .ok (.aload_n 0, 1) := by decide +kernel
theorem d_M_reads_60 : decode (rm_code mM_reads) 60 = .ok (.getfield 71, 3) := by decide +kernel
theorem d_M_reads_63 : decode (rm_code mM_reads) 63 = .ok (.iload 5, 2) := by decide +kernel
theorem d_M_reads_65 : decode (rm_code mM_reads) 65 = .ok (.iaload, 1) := by decide +kernel
theorem d_M_reads_66 : decode (rm_code mM_reads) 66 = .ok (.iload 4, 2) := by decide +kernel
theorem d_M_reads_68 : decode (rm_code mM_reads) 68 = .ok (.bipush (15), 2) := by decide +kernel
theorem d_M_reads_70 : decode (rm_code mM_reads) 70 = .ok (.iand, 1) := by decide +kernel
theorem d_M_reads_71 : decode (rm_code mM_reads) 71 = .ok (.ior, 1) := by decide +kernel
theorem d_M_reads_72 : decode (rm_code mM_reads) 72 = .ok (.iastore, 1) := by decide +kernel
theorem d_M_reads_73 : decode (rm_code mM_reads) 73 = .ok (.iinc 3 (1), 3) := by decide +kernel
theorem d_M_reads_76 : decode (rm_code mM_reads) 76 = .ok (.goto (-72), 3) := by decide +kernel
theorem d_M_reads_79 : decode (rm_code mM_reads) 79 = .ok (.iload_n 2, 1) := by decide +kernel
theorem d_M_reads_80 : decode (rm_code mM_reads) 80 = .ok (.ireturn, 1) := by decide +kernel
theorem p_M_reads_0 {S : rz_S} {K : Int32 → rz_S → Prop} {a1 : Int32} (w : rz mM_reads 4 [(0, .ref 116), (1, .int a1), (2, .int 1), (3, .int 0)] [] S (rz_i K)) : rz mM_reads 0 [(0, .ref 116), (1, .int a1)] [] S (rz_i K) := by
  refine rz_iconst (v := 1) d_M_reads_0 (by decide) ?_
  refine rz_pure (pc' := 2) (l' := [(2, .int 1), (0, .ref 116), (1, .int a1)]) d_M_reads_1 rfl ?_
  refine rz_iconst (v := 0) d_M_reads_2 (by decide) ?_
  refine rz_pure (pc' := 4) (l' := [(3, .int 0), (2, .int 1), (0, .ref 116), (1, .int a1)]) d_M_reads_3 rfl ?_
  exact rz_pick (ks := [0, 1, 2, 3]) (l := [(0, .ref 116), (1, .int a1), (2, .int 1), (3, .int 0)]) rfl rfl (by decide) rfl w
theorem p_M_reads_4 {S : rz_S} {K : Int32 → rz_S → Prop} {a1 : Int32} {a2 : Int32} {a3 : Int32} (w : ((a1 ≤ a3 → (a2 = 0 ∨ a2 = 1) ∧ K a2 S) ∧ (¬ a1 ≤ a3 → rz_ev mM_group [.ref 116, .int a3] S (rz_i (fun xq2 Sq2 => rz_ev mM_valueOf [.int xq2] Sq2 (rz_i (fun xq3 Sq3 => ((a2 = 0 → rz mM_reads 33 [(0, .ref 116), (1, .int a1), (3, .int a3), (4, .int xq3)] [] Sq3 (rz_i K)) ∧ (¬ a2 = 0 → ((xq3 = (-1) → rz mM_reads 33 [(0, .ref 116), (1, .int a1), (3, .int a3), (4, .int xq3)] [] Sq3 (rz_i K)) ∧ (¬ xq3 = (-1) → rz mM_reads 34 [(0, .ref 116), (1, .int a1), (3, .int a3), (4, .int xq3)] [.int 1] Sq3 (rz_i K)))))))))))) : rz mM_reads 4 [(0, .ref 116), (1, .int a1), (2, .int a2), (3, .int a3)] [] S (rz_i K) := by
  refine rz_pure (pc' := 5) d_M_reads_4 rfl ?_
  refine rz_pure (pc' := 6) d_M_reads_5 rfl ?_
  refine rz_icmpge (tgt := 79) d_M_reads_6 rfl (fun b1 => ?_) (fun b1 => ?_)
  · skip
    refine rz_pure (pc' := 80) d_M_reads_79 rfl ?_
    exact rz_ireti d_M_reads_80 rfl (rz_bnok (w.1 b1).1) (w.1 b1).2
  · skip
    refine rz_pure (pc' := 10) d_M_reads_9 rfl ?_
    refine rz_pure (pc' := 11) d_M_reads_10 rfl ?_
    refine rz_callVi (t := [.int a3]) d_M_reads_11 w_12_77 rfl rfl rfl (w.2 b1) (fun xq2 Sq2 q2 => ?_)
    refine rz_callSi (t := [.int xq2]) d_M_reads_14 rfl w_12_80 rfl rfl q2 (fun xq3 Sq3 q3 => ?_)
    refine rz_pure (pc' := 19) (l' := [(4, .int xq3), (0, .ref 116), (1, .int a1), (2, .int a2), (3, .int a3)]) d_M_reads_17 rfl ?_
    refine rz_pure (pc' := 20) d_M_reads_19 rfl ?_
    refine rz_ifeq (tgt := 33) d_M_reads_20 rfl (fun b4 => ?_) (fun b4 => ?_)
    · skip
      exact rz_pick (ks := [0, 1, 3, 4]) (l := [(0, .ref 116), (1, .int a1), (3, .int a3), (4, .int xq3)]) rfl rfl (by decide) rfl (q3.1 b4)
    · skip
      refine rz_pure (pc' := 25) d_M_reads_23 rfl ?_
      refine rz_iconst (v := -1) d_M_reads_25 (by decide) ?_
      refine rz_icmpeq (tgt := 33) d_M_reads_26 rfl (fun b5 => ?_) (fun b5 => ?_)
      · skip
        exact rz_pick (ks := [0, 1, 3, 4]) (l := [(0, .ref 116), (1, .int a1), (3, .int a3), (4, .int xq3)]) rfl rfl (by decide) rfl ((q3.2 b4).1 b5)
      · skip
        refine rz_iconst (v := 1) d_M_reads_29 (by decide) ?_
        refine rz_pure (pc' := 34) d_M_reads_30 rfl ?_
        exact rz_pick (ks := [0, 1, 3, 4]) (l := [(0, .ref 116), (1, .int a1), (3, .int a3), (4, .int xq3)]) rfl rfl (by decide) rfl ((q3.2 b4).2 b5)
theorem p_M_reads_33 {S : rz_S} {K : Int32 → rz_S → Prop} {a1 : Int32} {a3 : Int32} {a4 : Int32} (w : rz mM_reads 34 [(0, .ref 116), (1, .int a1), (3, .int a3), (4, .int a4)] [.int 0] S (rz_i K)) : rz mM_reads 33 [(0, .ref 116), (1, .int a1), (3, .int a3), (4, .int a4)] [] S (rz_i K) := by
  refine rz_iconst (v := 0) d_M_reads_33 (by decide) ?_
  exact rz_pick (ks := [0, 1, 3, 4]) (l := [(0, .ref 116), (1, .int a1), (3, .int a3), (4, .int a4)]) rfl rfl (by decide) rfl w
theorem p_M_reads_34 {S : rz_S} {K : Int32 → rz_S → Prop} {a1 : Int32} {a3 : Int32} {a4 : Int32} {s0 : Int32} (w : ((a3 - a3 / 2 * 2 = 0 → rx_in (a3 / 2) 68 = true ∧ rz mM_reads 4 [(0, .ref 116), (1, .int a1), (2, .int s0), (3, .int (a3 + 1))] [] (rz_fA S 119 (upd (S.1 119) ((a3 / 2).toNatClampNeg) (a4 <<< ((4 : Int32) &&& 31)))) (rz_i K)) ∧ (¬ a3 - a3 / 2 * 2 = 0 → rx_in (a3 / 2) 68 = true ∧ rz mM_reads 4 [(0, .ref 116), (1, .int a1), (2, .int s0), (3, .int (a3 + 1))] [] (rz_fA S 119 (upd (S.1 119) ((a3 / 2).toNatClampNeg) ((S.1 119 ((a3 / 2).toNatClampNeg)) ||| (a4 &&& 15)))) (rz_i K)))) : rz mM_reads 34 [(0, .ref 116), (1, .int a1), (3, .int a3), (4, .int a4)] [.int s0] S (rz_i K) := by
  refine rz_pure (pc' := 35) (l' := [(2, .int s0), (0, .ref 116), (1, .int a1), (3, .int a3), (4, .int a4)]) d_M_reads_34 rfl ?_
  refine rz_pure (pc' := 36) d_M_reads_35 rfl ?_
  refine rz_iconst (v := 2) d_M_reads_36 (by decide) ?_
  refine rz_idiv d_M_reads_37 (by decide) ?_
  refine rz_pure (pc' := 40) (l' := [(5, .int (a3 / 2)), (2, .int s0), (0, .ref 116), (1, .int a1), (3, .int a3), (4, .int a4)]) d_M_reads_38 rfl ?_
  refine rz_pure (pc' := 41) d_M_reads_40 rfl ?_
  refine rz_getr d_M_reads_41 f_12_71 rfl rfl ?_
  refine rz_pure (pc' := 46) d_M_reads_44 rfl ?_
  refine rz_pure (pc' := 47) d_M_reads_46 rfl ?_
  refine rz_iconst (v := 2) d_M_reads_47 (by decide) ?_
  refine rz_irem d_M_reads_48 (by decide) ?_
  refine rz_ifne (tgt := 59) d_M_reads_49 rfl (fun b1 => ?_) (fun b1 => ?_)
  · skip
    refine rz_pure (pc' := 60) d_M_reads_59 rfl ?_
    refine rz_getr d_M_reads_60 f_12_71 rfl rfl ?_
    refine rz_pure (pc' := 65) d_M_reads_63 rfl ?_
    refine rz_ialdv (F := S.1 119) (i := (a3 / 2).toNatClampNeg) d_M_reads_65 rfl (w.2 b1).1 rfl rfl ?_
    refine rz_pure (pc' := 68) d_M_reads_66 rfl ?_
    refine rz_bipush (v := 15) d_M_reads_68 (by decide) ?_
    refine rz_iand d_M_reads_70 ?_
    refine rz_ior d_M_reads_71 ?_
    refine rz_iastv (F := S.1 119) (i := (a3 / 2).toNatClampNeg) d_M_reads_72 rfl (w.2 b1).1 rfl rfl ?_
    refine rz_pure (pc' := 76) (l' := [(3, .int (a3 + 1)), (5, .int (a3 / 2)), (2, .int s0), (0, .ref 116), (1, .int a1), (4, .int a4)]) d_M_reads_73 rfl ?_
    refine rz_pure (pc' := 4) d_M_reads_76 rfl ?_
    exact rz_pick (ks := [0, 1, 2, 3]) (l := [(0, .ref 116), (1, .int a1), (2, .int s0), (3, .int (a3 + 1))]) rfl rfl (by decide) rfl (w.2 b1).2
  · skip
    refine rz_pure (pc' := 54) d_M_reads_52 rfl ?_
    refine rz_iconst (v := 4) d_M_reads_54 (by decide) ?_
    refine rz_ishl d_M_reads_55 ?_
    refine rz_pure (pc' := 72) d_M_reads_56 rfl ?_
    refine rz_iastv (F := S.1 119) (i := (a3 / 2).toNatClampNeg) d_M_reads_72 rfl (w.1 b1).1 rfl rfl ?_
    refine rz_pure (pc' := 76) (l' := [(3, .int (a3 + 1)), (5, .int (a3 / 2)), (2, .int s0), (0, .ref 116), (1, .int a1), (4, .int a4)]) d_M_reads_73 rfl ?_
    refine rz_pure (pc' := 4) d_M_reads_76 rfl ?_
    exact rz_pick (ks := [0, 1, 2, 3]) (l := [(0, .ref 116), (1, .int a1), (2, .int s0), (3, .int (a3 + 1))]) rfl rfl (by decide) rfl (w.1 b1).2
