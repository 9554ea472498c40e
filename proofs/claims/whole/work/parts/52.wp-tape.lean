/-! what each block of the code asks (printed by wpgen.py) -/
theorem d_Pattern_fitAll_0 : decode (rm_code mPattern_fitAll) 0 = .ok (.aload_n 0, 1) := by decide +kernel
theorem d_Pattern_fitAll_1 : decode (rm_code mPattern_fitAll) 1 = .ok (.getfield 9, 3) := by decide +kernel
theorem d_Pattern_fitAll_4 : decode (rm_code mPattern_fitAll) 4 = .ok (.iconst 0, 1) := by decide +kernel
theorem d_Pattern_fitAll_5 : decode (rm_code mPattern_fitAll) 5 = .ok (.bipush (42), 2) := by decide +kernel
theorem d_Pattern_fitAll_7 : decode (rm_code mPattern_fitAll) 7 = .ok (.iastore, 1) := by decide +kernel
theorem d_Pattern_fitAll_8 : decode (rm_code mPattern_fitAll) 8 = .ok (.aload_n 0, 1) := by decide +kernel
theorem d_Pattern_fitAll_9 : decode (rm_code mPattern_fitAll) 9 = .ok (.iconst 1, 1) := by decide +kernel
theorem d_Pattern_fitAll_10 : decode (rm_code mPattern_fitAll) 10 = .ok (.putfield 19, 3) := by decide +kernel
theorem d_Pattern_fitAll_13 : decode (rm_code mPattern_fitAll) 13 = .ok (.return_, 1) := by decide +kernel
theorem p_Pattern_fitAll_0 {S : rz_S} {K : rz_S → Prop} {a0 : Nat} (ha0 : ptP a0) (w : K (rz_uI (rz_fA S (a0 + 1) (upd (S.1 (a0 + 1)) 0 42)) a0 1 1)) : rz mPattern_fitAll 0 [(0, .ref a0)] [] S (rz_v K) := by
  refine rz_pure (pc' := 1) d_Pattern_fitAll_0 rfl ?_
  refine rz_getr d_Pattern_fitAll_1 f_6_9 (ptT ha0) rfl ?_
  refine rz_iconst (v := 0) d_Pattern_fitAll_4 (by decide) ?_
  refine rz_bipush (v := 42) d_Pattern_fitAll_5 (by decide) ?_
  refine rz_iastv (F := S.1 (a0 + 1)) (i := 0) d_Pattern_fitAll_7 (ptR ha0) (by decide) rfl (by decide) ?_
  refine rz_pure (pc' := 9) d_Pattern_fitAll_8 rfl ?_
  refine rz_iconst (v := 1) d_Pattern_fitAll_9 (by decide) ?_
  refine rz_puti d_Pattern_fitAll_10 f_6_19 (ptT ha0) rfl rfl ?_
  exact rz_vretv d_Pattern_fitAll_13 rfl w
theorem p_Tape_add_0 {S : rz_S} {K : rz_S → Prop} {a1 : Int32} (w : rz mTape_add 3 [(0, .ref 1), (1, .int a1), (2, .int 24)] [] S (rz_v K)) : rz mTape_add 0 [(0, .ref 1), (1, .int a1)] [] S (rz_v K) := by
  refine rz_bipush (v := 24) d_Tape_add_0 (by decide) ?_
  refine rz_pure (pc' := 3) (l' := [(2, .int 24), (0, .ref 1), (1, .int a1)]) d_Tape_add_2 rfl ?_
  exact rz_pick (ks := [0, 1, 2]) (l := [(0, .ref 1), (1, .int a1), (2, .int 24)]) rfl rfl (by decide) rfl w
theorem p_Tape_add_3 {S : rz_S} {K : rz_S → Prop} {a1 : Int32} {a2 : Int32} (w : ((a2 < 0 → K S) ∧ (¬ a2 < 0 → ((400 ≤ S.2 1 1 → K S) ∧ (¬ 400 ≤ S.2 1 1 → rx_in (S.2 1 1) 400 = true ∧ rz mTape_add 3 [(0, .ref 1), (1, .int a1), (2, .int (a2 + (-8)))] [] (rz_uI (rz_fA S 2 (upd (S.1 2) ((S.2 1 1).toNatClampNeg) ((a1 >>> (a2 &&& 31)) &&& 255))) 1 1 ((S.2 1 1) + 1)) (rz_v K)))))) : rz mTape_add 3 [(0, .ref 1), (1, .int a1), (2, .int a2)] [] S (rz_v K) := by
  refine rz_pure (pc' := 4) d_Tape_add_3 rfl ?_
  refine rz_iflt (tgt := 49) d_Tape_add_4 rfl (fun b1 => ?_) (fun b1 => ?_)
  · skip
    exact rz_vretv d_Tape_add_49 rfl (w.1 b1)
  · skip
    refine rz_pure (pc' := 8) d_Tape_add_7 rfl ?_
    refine rz_getiv (v := S.2 1 1) d_Tape_add_8 f_10_15 rfl rfl rfl ?_
    refine rz_sipush (v := 400) d_Tape_add_11 (by decide) ?_
    refine rz_icmpge (tgt := 49) d_Tape_add_14 rfl (fun b2 => ?_) (fun b2 => ?_)
    · skip
      exact rz_vretv d_Tape_add_49 rfl ((w.2 b1).1 b2)
    · skip
      refine rz_pure (pc' := 18) d_Tape_add_17 rfl ?_
      refine rz_getr d_Tape_add_18 f_10_11 rfl rfl ?_
      refine rz_pure (pc' := 22) d_Tape_add_21 rfl ?_
      refine rz_getiv (v := S.2 1 1) d_Tape_add_22 f_10_15 rfl rfl rfl ?_
      refine rz_pure (pc' := 26) d_Tape_add_25 rfl ?_
      refine rz_pure (pc' := 27) d_Tape_add_26 rfl ?_
      refine rz_ishr d_Tape_add_27 ?_
      refine rz_sipush (v := 255) d_Tape_add_28 (by decide) ?_
      refine rz_iand d_Tape_add_31 ?_
      refine rz_iastv (F := S.1 2) (i := (S.2 1 1).toNatClampNeg) d_Tape_add_32 rfl ((w.2 b1).2 b2).1 rfl rfl ?_
      refine rz_pure (pc' := 34) d_Tape_add_33 rfl ?_
      refine rz_pure (pc' := 35) d_Tape_add_34 rfl ?_
      refine rz_getiv (v := S.2 1 1) d_Tape_add_35 f_10_15 rfl rfl rfl ?_
      refine rz_iconst (v := 1) d_Tape_add_38 (by decide) ?_
      refine rz_iadd d_Tape_add_39 ?_
      refine rz_puti d_Tape_add_40 f_10_15 rfl rfl rfl ?_
      refine rz_pure (pc' := 46) (l' := [(2, .int (a2 + (-8))), (0, .ref 1), (1, .int a1)]) d_Tape_add_43 rfl ?_
      refine rz_pure (pc' := 3) d_Tape_add_46 rfl ?_
      exact rz_pick (ks := [0, 1, 2]) (l := [(0, .ref 1), (1, .int a1), (2, .int (a2 + (-8)))]) rfl rfl (by decide) rfl ((w.2 b1).2 b2).2
theorem d_Tape_has_0 : decode (rm_code mTape_has) 0 = .ok (.iload_n 1, 1) := by decide +kernel
theorem d_Tape_has_1 : decode (rm_code mTape_has) 1 = .ok (.ifCond .lt (15), 3) := by decide +kernel
theorem d_Tape_has_4 : decode (rm_code mTape_has) 4 = .ok (.iload_n 1, 1) := by decide +kernel
theorem d_Tape_has_5 : decode (rm_code mTape_has) 5 = .ok (.aload_n 0, 1) := by decide +kernel
theorem d_Tape_has_6 : decode (rm_code mTape_has) 6 = .ok (.getfield 15, 3) := by decide +kernel
theorem d_Tape_has_9 : decode (rm_code mTape_has) 9 = .ok (.if_icmp .gt (7), 3) := by decide +kernel
theorem d_Tape_has_12 : decode (rm_code mTape_has) 12 = .ok (.iconst 1, 1) := by decide +kernel
theorem d_Tape_has_13 : decode (rm_code mTape_has) 13 = .ok (.goto (4), 3) := by decide +kernel
theorem d_Tape_has_16 : decode (rm_code mTape_has) 16 = .ok (.iconst 0, 1) := by decide +kernel
theorem d_Tape_has_17 : decode (rm_code mTape_has) 17 = .ok (.ireturn, 1) := by decide +kernel
theorem p_Tape_has_0 {S : rz_S} {K : Int32 → rz_S → Prop} {a1 : Int32} (w : ((a1 < 0 → K 0 S) ∧ (¬ a1 < 0 → ((S.2 1 1 < a1 → K 0 S) ∧ (¬ S.2 1 1 < a1 → K 1 S))))) : rz mTape_has 0 [(0, .ref 1), (1, .int a1)] [] S (rz_i K) := by
  refine rz_pure (pc' := 1) d_Tape_has_0 rfl ?_
  refine rz_iflt (tgt := 16) d_Tape_has_1 rfl (fun b1 => ?_) (fun b1 => ?_)
  · skip
    refine rz_iconst (v := 0) d_Tape_has_16 (by decide) ?_
    exact rz_ireti d_Tape_has_17 rfl (by decide) (w.1 b1)
  · skip
    refine rz_pure (pc' := 5) d_Tape_has_4 rfl ?_
    refine rz_pure (pc' := 6) d_Tape_has_5 rfl ?_
    refine rz_getiv (v := S.2 1 1) d_Tape_has_6 f_10_15 rfl rfl rfl ?_
    refine rz_icmpgt (tgt := 16) d_Tape_has_9 rfl (fun b2 => ?_) (fun b2 => ?_)
    · skip
      refine rz_iconst (v := 0) d_Tape_has_16 (by decide) ?_
      exact rz_ireti d_Tape_has_17 rfl (by decide) ((w.2 b1).1 b2)
    · skip
      refine rz_iconst (v := 1) d_Tape_has_12 (by decide) ?_
      refine rz_pure (pc' := 17) d_Tape_has_13 rfl ?_
      exact rz_ireti d_Tape_has_17 rfl (by decide) ((w.2 b1).2 b2)
theorem d_Tape_send_0 : decode (rm_code mTape_send) 0 = .ok (.aload_n 0, 1) := by decide +kernel
theorem d_Tape_send_1 : decode (rm_code mTape_send) 1 = .ok (.iload_n 1, 1) := by decide +kernel
theorem d_Tape_send_2 : decode (rm_code mTape_send) 2 = .ok (.putfield 19, 3) := by decide +kernel
theorem d_Tape_send_5 : decode (rm_code mTape_send) 5 = .ok (.aload_n 0, 1) := by decide +kernel
theorem d_Tape_send_6 : decode (rm_code mTape_send) 6 = .ok (.iconst 0, 1) := by decide +kernel
theorem d_Tape_send_7 : decode (rm_code mTape_send) 7 = .ok (.putfield 15, 3) := by decide +kernel
theorem d_Tape_send_10 : decode (rm_code mTape_send) 10 = .ok (.return_, 1) := by decide +kernel
theorem p_Tape_send_0 {S : rz_S} {K : rz_S → Prop} {a1 : Int32} (w : K (rz_uI (rz_uI S 1 2 a1) 1 1 0)) : rz mTape_send 0 [(0, .ref 1), (1, .int a1)] [] S (rz_v K) := by
  refine rz_pure (pc' := 1) d_Tape_send_0 rfl ?_
  refine rz_pure (pc' := 2) d_Tape_send_1 rfl ?_
  refine rz_puti d_Tape_send_2 f_10_19 rfl rfl rfl ?_
  refine rz_pure (pc' := 6) d_Tape_send_5 rfl ?_
  refine rz_iconst (v := 0) d_Tape_send_6 (by decide) ?_
  refine rz_puti d_Tape_send_7 f_10_15 rfl rfl rfl ?_
  exact rz_vretv d_Tape_send_10 rfl w
theorem p_Status_begin_0 {S : rz_S} {K : rz_S → Prop} (w : rz_ev mStatus_set [.ref 3, .int 0, .int 0, .int 0] S (rz_i (fun xq1 Sq1 => K (rz_uI (rz_uI Sq1 3 8 0) 3 9 0)))) : rz mStatus_begin 0 [(0, .ref 3)] [] S (rz_v K) := by
  refine rz_pure (pc' := 1) d_Status_begin_0 rfl ?_
  refine rz_iconst (v := 0) d_Status_begin_1 (by decide) ?_
  refine rz_iconst (v := 0) d_Status_begin_2 (by decide) ?_
  refine rz_iconst (v := 0) d_Status_begin_3 (by decide) ?_
  refine rz_callVi (t := [.int 0, .int 0, .int 0]) d_Status_begin_4 w_9_22 rfl rfl rfl w (fun xq1 Sq1 q1 => ?_)
  refine rz_pure (pc' := 8) d_Status_begin_7 rfl ?_
  refine rz_pure (pc' := 9) d_Status_begin_8 rfl ?_
  refine rz_iconst (v := 0) d_Status_begin_9 (by decide) ?_
  refine rz_puti d_Status_begin_10 f_9_26 rfl rfl rfl ?_
  refine rz_pure (pc' := 14) d_Status_begin_13 rfl ?_
  refine rz_iconst (v := 0) d_Status_begin_14 (by decide) ?_
  refine rz_puti d_Status_begin_15 f_9_29 rfl rfl rfl ?_
  exact rz_vretv d_Status_begin_18 rfl q1
theorem p_Status_set_0 {S : rz_S} {K : Int32 → rz_S → Prop} {a1 : Int32} {a2 : Int32} {a3 : Int32} (w : K a1 (rz_uI (rz_uI (rz_uI (rz_uI (rz_uI S 3 0 a1) 3 1 a2) 3 2 a3) 3 5 0) 3 6 0)) : rz mStatus_set 0 [(0, .ref 3), (1, .int a1), (2, .int a2), (3, .int a3)] [] S (rz_i K) := by
  refine rz_pure (pc' := 1) d_Status_set_0 rfl ?_
  refine rz_pure (pc' := 2) d_Status_set_1 rfl ?_
  refine rz_puti d_Status_set_2 f_9_9 rfl rfl rfl ?_
  refine rz_pure (pc' := 6) d_Status_set_5 rfl ?_
  refine rz_pure (pc' := 7) d_Status_set_6 rfl ?_
  refine rz_puti d_Status_set_7 f_9_32 rfl rfl rfl ?_
  refine rz_pure (pc' := 11) d_Status_set_10 rfl ?_
  refine rz_pure (pc' := 12) d_Status_set_11 rfl ?_
  refine rz_puti d_Status_set_12 f_9_35 rfl rfl rfl ?_
  refine rz_pure (pc' := 16) d_Status_set_15 rfl ?_
  refine rz_iconst (v := 0) d_Status_set_16 (by decide) ?_
  refine rz_puti d_Status_set_17 f_9_38 rfl rfl rfl ?_
  refine rz_pure (pc' := 21) d_Status_set_20 rfl ?_
  refine rz_iconst (v := 0) d_Status_set_21 (by decide) ?_
  refine rz_puti d_Status_set_22 f_9_41 rfl rfl rfl ?_
  refine rz_pure (pc' := 26) d_Status_set_25 rfl ?_
  exact rz_ireti d_Status_set_26 rfl rfl w
theorem d_Tape_byteAt_0 : decode (rm_code mTape_byteAt) 0 = .ok (.iload_n 1, 1) := by decide +kernel
theorem d_Tape_byteAt_1 : decode (rm_code mTape_byteAt) 1 = .ok (.ifCond .lt (27), 3) := by decide +kernel
theorem d_Tape_byteAt_4 : decode (rm_code mTape_byteAt) 4 = .ok (.iload_n 1, 1) := by decide +kernel
theorem d_Tape_byteAt_5 : decode (rm_code mTape_byteAt) 5 = .ok (.aload_n 0, 1) := by decide +kernel
theorem d_Tape_byteAt_6 : decode (rm_code mTape_byteAt) 6 = .ok (.getfield 19, 3) := by decide +kernel
theorem d_Tape_byteAt_9 : decode (rm_code mTape_byteAt) 9 = .ok (.if_icmp .ge (19), 3) := by decide +kernel
theorem d_Tape_byteAt_12 : decode (rm_code mTape_byteAt) 12 = .ok (.iload_n 1, 1) := by decide +kernel
theorem d_Tape_byteAt_13 : decode (rm_code mTape_byteAt) 13 = .ok (.sipush (400), 3) := by decide +kernel
theorem d_Tape_byteAt_16 : decode (rm_code mTape_byteAt) 16 = .ok (.if_icmp .ge (12), 3) := by decide +kernel
theorem d_Tape_byteAt_19 : decode (rm_code mTape_byteAt) 19 = .ok (.aload_n 0, 1) := by decide +kernel
theorem d_Tape_byteAt_20 : decode (rm_code mTape_byteAt) 20 = .ok (.getfield 11, 3) := by decide +kernel
theorem d_Tape_byteAt_23 : decode (rm_code mTape_byteAt) 23 = .ok (.iload_n 1, 1) := by decide +kernel
theorem d_Tape_byteAt_24 : decode (rm_code mTape_byteAt) 24 = .ok (.iaload, 1) := by decide +kernel
theorem d_Tape_byteAt_25 : decode (rm_code mTape_byteAt) 25 = .ok (.goto (4), 3) := by decide +kernel
theorem d_Tape_byteAt_28 : decode (rm_code mTape_byteAt) 28 = .ok (.iconst (-1), 1) := by decide +kernel
theorem d_Tape_byteAt_29 : decode (rm_code mTape_byteAt) 29 = .ok (.ireturn, 1) := by decide +kernel
theorem p_Tape_byteAt_0 {S : rz_S} {K : Int32 → rz_S → Prop} {a1 : Int32} (w : ((a1 < 0 → K (-1) S) ∧ (¬ a1 < 0 → ((S.2 1 2 ≤ a1 → K (-1) S) ∧ (¬ S.2 1 2 ≤ a1 → ((400 ≤ a1 → K (-1) S) ∧ (¬ 400 ≤ a1 → rx_in a1 400 = true ∧ K (S.1 2 a1.toNatClampNeg) S))))))) : rz mTape_byteAt 0 [(0, .ref 1), (1, .int a1)] [] S (rz_i K) := by
  refine rz_pure (pc' := 1) d_Tape_byteAt_0 rfl ?_
  refine rz_iflt (tgt := 28) d_Tape_byteAt_1 rfl (fun b1 => ?_) (fun b1 => ?_)
  · skip
    refine rz_iconst (v := -1) d_Tape_byteAt_28 (by decide) ?_
    exact rz_ireti d_Tape_byteAt_29 rfl rfl (w.1 b1)
  · skip
    refine rz_pure (pc' := 5) d_Tape_byteAt_4 rfl ?_
    refine rz_pure (pc' := 6) d_Tape_byteAt_5 rfl ?_
    refine rz_getiv (v := S.2 1 2) d_Tape_byteAt_6 f_10_19 rfl rfl rfl ?_
    refine rz_icmpge (tgt := 28) d_Tape_byteAt_9 rfl (fun b2 => ?_) (fun b2 => ?_)
    · skip
      refine rz_iconst (v := -1) d_Tape_byteAt_28 (by decide) ?_
      exact rz_ireti d_Tape_byteAt_29 rfl rfl ((w.2 b1).1 b2)
    · skip
      refine rz_pure (pc' := 13) d_Tape_byteAt_12 rfl ?_
      refine rz_sipush (v := 400) d_Tape_byteAt_13 (by decide) ?_
      refine rz_icmpge (tgt := 28) d_Tape_byteAt_16 rfl (fun b3 => ?_) (fun b3 => ?_)
      · skip
        refine rz_iconst (v := -1) d_Tape_byteAt_28 (by decide) ?_
        exact rz_ireti d_Tape_byteAt_29 rfl rfl (((w.2 b1).2 b2).1 b3)
      · skip
        refine rz_pure (pc' := 20) d_Tape_byteAt_19 rfl ?_
        refine rz_getr d_Tape_byteAt_20 f_10_11 rfl rfl ?_
        refine rz_pure (pc' := 24) d_Tape_byteAt_23 rfl ?_
        refine rz_ialdv (F := S.1 2) (i := a1.toNatClampNeg) d_Tape_byteAt_24 rfl (((w.2 b1).2 b2).2 b3).1 rfl rfl ?_
        refine rz_pure (pc' := 29) d_Tape_byteAt_25 rfl ?_
        exact rz_ireti d_Tape_byteAt_29 rfl rfl (((w.2 b1).2 b2).2 b3).2
theorem d_Tape_find_0 : decode (rm_code mTape_find) 0 = .ok (.iconst 0, 1) := by decide +kernel
theorem d_Tape_find_1 : decode (rm_code mTape_find) 1 = .ok (.iload_n 2, 1) := by decide +kernel
theorem d_Tape_find_2 : decode (rm_code mTape_find) 2 = .ok (.invokestatic 22, 3) := by decide +kernel
theorem d_Tape_find_5 : decode (rm_code mTape_find) 5 = .ok (.istore_n 3, 1) := by decide +kernel
theorem d_Tape_find_6 : decode (rm_code mTape_find) 6 = .ok (.iload_n 3, 1) := by decide +kernel
theorem d_Tape_find_7 : decode (rm_code mTape_find) 7 = .ok (.aload_n 0, 1) := by decide +kernel
theorem d_Tape_find_8 : decode (rm_code mTape_find) 8 = .ok (.getfield 19, 3) := by decide +kernel
theorem d_Tape_find_11 : decode (rm_code mTape_find) 11 = .ok (.if_icmp .ge (28), 3) := by decide +kernel
theorem d_Tape_find_14 : decode (rm_code mTape_find) 14 = .ok (.iload_n 3, 1) := by decide +kernel
theorem d_Tape_find_15 : decode (rm_code mTape_find) 15 = .ok (.sipush (400), 3) := by decide +kernel
theorem d_Tape_find_18 : decode (rm_code mTape_find) 18 = .ok (.if_icmp .ge (21), 3) := by decide +kernel
theorem d_Tape_find_21 : decode (rm_code mTape_find) 21 = .ok (.aload_n 0, 1) := by decide +kernel
theorem d_Tape_find_22 : decode (rm_code mTape_find) 22 = .ok (.getfield 11, 3) := by decide +kernel
theorem d_Tape_find_25 : decode (rm_code mTape_find) 25 = .ok (.iload_n 3, 1) := by decide +kernel
theorem d_Tape_find_26 : decode (rm_code mTape_find) 26 = .ok (.iaload, 1) := by decide +kernel
theorem d_Tape_find_27 : decode (rm_code mTape_find) 27 = .ok (.iload_n 1, 1) := by decide +kernel
theorem d_Tape_find_28 : decode (rm_code mTape_find) 28 = .ok (.if_icmp .ne (5), 3) := by decide +kernel
theorem d_Tape_find_31 : decode (rm_code mTape_find) 31 = .ok (.iload_n 3, 1) := by decide +kernel
theorem d_Tape_find_32 : decode (rm_code mTape_find) 32 = .ok (.ireturn, 1) := by decide +kernel
theorem d_Tape_find_33 : decode (rm_code mTape_find) 33 = .ok (.iinc 3 (1), 3) := by decide +kernel
theorem d_Tape_find_36 : decode (rm_code mTape_find) 36 = .ok (.goto (-30), 3) := by decide +kernel
theorem d_Tape_find_39 : decode (rm_code mTape_find) 39 = .ok (.iconst (-1), 1) := by decide +kernel
theorem d_Tape_find_40 : decode (rm_code mTape_find) 40 = .ok (.ireturn, 1) := by decide +kernel
theorem p_Tape_find_0 {S : rz_S} {K : Int32 → rz_S → Prop} {a1 : Int32} {a2 : Int32} (w : rz mTape_find 6 [(0, .ref 1), (1, .int a1), (3, .int (if 0 < a2 then a2 else 0))] [] S (rz_i K)) : rz mTape_find 0 [(0, .ref 1), (1, .int a1), (2, .int a2)] [] S (rz_i K) := by
  refine rz_iconst (v := 0) d_Tape_find_0 (by decide) ?_
  refine rz_pure (pc' := 2) d_Tape_find_1 rfl ?_
  refine rz_max d_Tape_find_2 rfl rfl rfl ?_
  refine rz_pure (pc' := 6) (l' := [(3, .int (if 0 < a2 then a2 else 0)), (0, .ref 1), (1, .int a1), (2, .int a2)]) d_Tape_find_5 rfl ?_
  exact rz_pick (ks := [0, 1, 3]) (l := [(0, .ref 1), (1, .int a1), (3, .int (if 0 < a2 then a2 else 0))]) rfl rfl (by decide) rfl w
theorem p_Tape_find_6 {S : rz_S} {K : Int32 → rz_S → Prop} {a1 : Int32} {a3 : Int32} (w : ((S.2 1 2 ≤ a3 → K (-1) S) ∧ (¬ S.2 1 2 ≤ a3 → ((400 ≤ a3 → K (-1) S) ∧ (¬ 400 ≤ a3 → rx_in a3 400 = true ∧ ((S.1 2 a3.toNatClampNeg = a1 → K a3 S) ∧ (¬ S.1 2 a3.toNatClampNeg = a1 → rz mTape_find 6 [(0, .ref 1), (1, .int a1), (3, .int (a3 + 1))] [] S (rz_i K)))))))) : rz mTape_find 6 [(0, .ref 1), (1, .int a1), (3, .int a3)] [] S (rz_i K) := by
  refine rz_pure (pc' := 7) d_Tape_find_6 rfl ?_
  refine rz_pure (pc' := 8) d_Tape_find_7 rfl ?_
  refine rz_getiv (v := S.2 1 2) d_Tape_find_8 f_10_19 rfl rfl rfl ?_
  refine rz_icmpge (tgt := 39) d_Tape_find_11 rfl (fun b1 => ?_) (fun b1 => ?_)
  · skip
    refine rz_iconst (v := -1) d_Tape_find_39 (by decide) ?_
    exact rz_ireti d_Tape_find_40 rfl rfl (w.1 b1)
  · skip
    refine rz_pure (pc' := 15) d_Tape_find_14 rfl ?_
    refine rz_sipush (v := 400) d_Tape_find_15 (by decide) ?_
    refine rz_icmpge (tgt := 39) d_Tape_find_18 rfl (fun b2 => ?_) (fun b2 => ?_)
    · skip
      refine rz_iconst (v := -1) d_Tape_find_39 (by decide) ?_
      exact rz_ireti d_Tape_find_40 rfl rfl ((w.2 b1).1 b2)
    · skip
      refine rz_pure (pc' := 22) d_Tape_find_21 rfl ?_
      refine rz_getr d_Tape_find_22 f_10_11 rfl rfl ?_
      refine rz_pure (pc' := 26) d_Tape_find_25 rfl ?_
      refine rz_ialdv (F := S.1 2) (i := a3.toNatClampNeg) d_Tape_find_26 rfl ((w.2 b1).2 b2).1 rfl rfl ?_
      refine rz_pure (pc' := 28) d_Tape_find_27 rfl ?_
      refine rz_icmpne (tgt := 33) d_Tape_find_28 rfl (fun b3 => ?_) (fun b3 => ?_)
      · skip
        refine rz_pure (pc' := 36) (l' := [(3, .int (a3 + 1)), (0, .ref 1), (1, .int a1)]) d_Tape_find_33 rfl ?_
        refine rz_pure (pc' := 6) d_Tape_find_36 rfl ?_
        exact rz_pick (ks := [0, 1, 3]) (l := [(0, .ref 1), (1, .int a1), (3, .int (a3 + 1))]) rfl rfl (by decide) rfl (((w.2 b1).2 b2).2.2 b3)
      · skip
        refine rz_pure (pc' := 32) d_Tape_find_31 rfl ?_
        exact rz_ireti d_Tape_find_32 rfl rfl (((w.2 b1).2 b2).2.1 b3)
theorem d_Pattern_take_0 : decode (rm_code mPattern_take) 0 = .ok (.iload_n 3, 1) := by decide +kernel
theorem d_Pattern_take_1 : decode (rm_code mPattern_take) 1 = .ok (.iload_n 2, 1) := by decide +kernel
theorem d_Pattern_take_2 : decode (rm_code mPattern_take) 2 = .ok (.isub, 1) := by decide +kernel
theorem d_Pattern_take_3 : decode (rm_code mPattern_take) 3 = .ok (.bipush (10), 2) := by decide +kernel
theorem d_Pattern_take_5 : decode (rm_code mPattern_take) 5 = .ok (.if_icmp .le (5), 3) := by decide +kernel
theorem d_Pattern_take_8 : decode (rm_code mPattern_take) 8 = .ok (.iconst 0, 1) := by decide +kernel
theorem d_Pattern_take_9 : decode (rm_code mPattern_take) 9 = .ok (.ireturn, 1) := by decide +kernel
theorem d_Pattern_take_10 : decode (rm_code mPattern_take) 10 = .ok (.aload_n 0, 1) := by decide +kernel
theorem d_Pattern_take_11 : decode (rm_code mPattern_take) 11 = .ok (.iconst 0, 1) := by decide +kernel
theorem d_Pattern_take_12 : decode (rm_code mPattern_take) 12 = .ok (.iload_n 3, 1) := by decide +kernel
theorem d_Pattern_take_13 : decode (rm_code mPattern_take) 13 = .ok (.iload_n 2, 1) := by decide +kernel
theorem d_Pattern_take_14 : decode (rm_code mPattern_take) 14 = .ok (.isub, 1) := by decide +kernel
theorem d_Pattern_take_15 : decode (rm_code mPattern_take) 15 = .ok (.invokestatic 13, 3) := by decide +kernel
theorem d_Pattern_take_18 : decode (rm_code mPattern_take) 18 = .ok (.putfield 19, 3) := by decide +kernel
theorem d_Pattern_take_21 : decode (rm_code mPattern_take) 21 = .ok (.iconst 0, 1) := by decide +kernel
theorem d_Pattern_take_22 : decode (rm_code mPattern_take) 22 = .ok (.istore 4, 2) := by decide +kernel
theorem d_Pattern_take_24 : decode (rm_code mPattern_take) 24 = .ok (.iload 4, 2) := by decide +kernel
theorem d_Pattern_take_26 : decode (rm_code mPattern_take) 26 = .ok (.aload_n 0, 1) := by decide +kernel
theorem d_Pattern_take_27 : decode (rm_code mPattern_take) 27 = .ok (.getfield 19, 3) := by decide +kernel
theorem d_Pattern_take_30 : decode (rm_code mPattern_take) 30 = .ok (.if_icmp .ge (24), 3) := by decide +kernel
theorem d_Pattern_take_33 : decode (rm_code mPattern_take) 33 = .ok (.aload_n 0, 1) := by decide +kernel
theorem d_Pattern_take_34 : decode (rm_code mPattern_take) 34 = .ok (.getfield 9, 3) := by decide +kernel
theorem d_Pattern_take_37 : decode (rm_code mPattern_take) 37 = .ok (.iload 4, 2) := by decide +kernel
theorem d_Pattern_take_39 : decode (rm_code mPattern_take) 39 = .ok (.aload_n 1, 1) := by decide +kernel
theorem d_Pattern_take_40 : decode (rm_code mPattern_take) 40 = .ok (.iload_n 2, 1) := by decide +kernel
theorem d_Pattern_take_41 : decode (rm_code mPattern_take) 41 = .ok (.iload 4, 2) := by decide +kernel
theorem d_Pattern_take_43 : decode (rm_code mPattern_take) 43 = .ok (.iadd, 1) := by decide +kernel
theorem d_Pattern_take_44 : decode (rm_code mPattern_take) 44 = .ok (.invokevirtual 23, 3) := by decide +kernel
theorem d_Pattern_take_47 : decode (rm_code mPattern_take) 47 = .ok (.iastore, 1) := by decide +kernel
theorem d_Pattern_take_48 : decode (rm_code mPattern_take) 48 = .ok (.iinc 4 (1), 3) := by decide +kernel
theorem d_Pattern_take_51 : decode (rm_code mPattern_take) 51 = .ok (.goto (-27), 3) := by decide +kernel
theorem d_Pattern_take_54 : decode (rm_code mPattern_take) 54 = .ok (.iconst 1, 1) := by decide +kernel
theorem d_Pattern_take_55 : decode (rm_code mPattern_take) 55 = .ok (.ireturn, 1) := by decide +kernel
theorem p_Pattern_take_0 {S : rz_S} {K : Int32 → rz_S → Prop} {a0 : Nat} (ha0 : ptP a0) {a2 : Int32} {a3 : Int32} (w : ((a3 - a2 ≤ 10 → rz mPattern_take 24 [(0, .ref a0), (1, .ref 1), (2, .int a2), (4, .int 0)] [] (rz_uI S a0 1 (if 0 < a3 - a2 then a3 - a2 else 0)) (rz_i K)) ∧ (¬ a3 - a2 ≤ 10 → K 0 S))) : rz mPattern_take 0 [(0, .ref a0), (1, .ref 1), (2, .int a2), (3, .int a3)] [] S (rz_i K) := by
  refine rz_pure (pc' := 1) d_Pattern_take_0 rfl ?_
  refine rz_pure (pc' := 2) d_Pattern_take_1 rfl ?_
  refine rz_isub d_Pattern_take_2 ?_
  refine rz_bipush (v := 10) d_Pattern_take_3 (by decide) ?_
  refine rz_icmple (tgt := 10) d_Pattern_take_5 rfl (fun b1 => ?_) (fun b1 => ?_)
  · skip
    refine rz_pure (pc' := 11) d_Pattern_take_10 rfl ?_
    refine rz_iconst (v := 0) d_Pattern_take_11 (by decide) ?_
    refine rz_pure (pc' := 13) d_Pattern_take_12 rfl ?_
    refine rz_pure (pc' := 14) d_Pattern_take_13 rfl ?_
    refine rz_isub d_Pattern_take_14 ?_
    refine rz_max d_Pattern_take_15 rfl rfl rfl ?_
    refine rz_puti d_Pattern_take_18 f_6_19 (ptT ha0) rfl rfl ?_
    refine rz_iconst (v := 0) d_Pattern_take_21 (by decide) ?_
    refine rz_pure (pc' := 24) (l' := [(4, .int 0), (0, .ref a0), (1, .ref 1), (2, .int a2), (3, .int a3)]) d_Pattern_take_22 rfl ?_
    exact rz_pick (ks := [0, 1, 2, 4]) (l := [(0, .ref a0), (1, .ref 1), (2, .int a2), (4, .int 0)]) rfl rfl (by decide) rfl (w.1 b1)
  · skip
    refine rz_iconst (v := 0) d_Pattern_take_8 (by decide) ?_
    exact rz_ireti d_Pattern_take_9 rfl (by decide) (w.2 b1)
theorem p_Pattern_take_24 {S : rz_S} {K : Int32 → rz_S → Prop} {a0 : Nat} (ha0 : ptP a0) {a2 : Int32} {a4 : Int32} (w : ((S.2 a0 1 ≤ a4 → K 1 S) ∧ (¬ S.2 a0 1 ≤ a4 → rz_ev mTape_byteAt [.ref 1, .int (a2 + a4)] S (rz_i (fun xq2 Sq2 => rx_in a4 10 = true ∧ rz mPattern_take 24 [(0, .ref a0), (1, .ref 1), (2, .int a2), (4, .int (a4 + 1))] [] (rz_fA Sq2 (a0 + 1) (upd (Sq2.1 (a0 + 1)) a4.toNatClampNeg xq2)) (rz_i K)))))) : rz mPattern_take 24 [(0, .ref a0), (1, .ref 1), (2, .int a2), (4, .int a4)] [] S (rz_i K) := by
  refine rz_pure (pc' := 26) d_Pattern_take_24 rfl ?_
  refine rz_pure (pc' := 27) d_Pattern_take_26 rfl ?_
  refine rz_getiv (v := S.2 a0 1) d_Pattern_take_27 f_6_19 (ptT ha0) rfl rfl ?_
  refine rz_icmpge (tgt := 54) d_Pattern_take_30 rfl (fun b1 => ?_) (fun b1 => ?_)
  · skip
    refine rz_iconst (v := 1) d_Pattern_take_54 (by decide) ?_
    exact rz_ireti d_Pattern_take_55 rfl (by decide) (w.1 b1)
  · skip
    refine rz_pure (pc' := 34) d_Pattern_take_33 rfl ?_
    refine rz_getr d_Pattern_take_34 f_6_9 (ptT ha0) rfl ?_
    refine rz_pure (pc' := 39) d_Pattern_take_37 rfl ?_
    refine rz_pure (pc' := 40) d_Pattern_take_39 rfl ?_
    refine rz_pure (pc' := 41) d_Pattern_take_40 rfl ?_
    refine rz_pure (pc' := 43) d_Pattern_take_41 rfl ?_
    refine rz_iadd d_Pattern_take_43 ?_
    refine rz_callVi (t := [.int (a2 + a4)]) d_Pattern_take_44 w_6_23 rfl rfl rfl (w.2 b1) (fun xq2 Sq2 q2 => ?_)
    refine rz_iastv (F := Sq2.1 (a0 + 1)) (i := a4.toNatClampNeg) d_Pattern_take_47 (ptR ha0) q2.1 rfl rfl ?_
    refine rz_pure (pc' := 51) (l' := [(4, .int (a4 + 1)), (0, .ref a0), (1, .ref 1), (2, .int a2)]) d_Pattern_take_48 rfl ?_
    refine rz_pure (pc' := 24) d_Pattern_take_51 rfl ?_
    exact rz_pick (ks := [0, 1, 2, 4]) (l := [(0, .ref a0), (1, .ref 1), (2, .int a2), (4, .int (a4 + 1))]) rfl rfl (by decide) rfl q2.2
theorem d_Pattern_isEmpty_0 : decode (rm_code mPattern_isEmpty) 0 = .ok (.aload_n 0, 1) := by decide +kernel
theorem d_Pattern_isEmpty_1 : decode (rm_code mPattern_isEmpty) 1 = .ok (.getfield 19, 3) := by decide +kernel
theorem d_Pattern_isEmpty_4 : decode (rm_code mPattern_isEmpty) 4 = .ok (.ifCond .ne (7), 3) := by decide +kernel
theorem d_Pattern_isEmpty_7 : decode (rm_code mPattern_isEmpty) 7 = .ok (.iconst 1, 1) := by decide +kernel
theorem d_Pattern_isEmpty_8 : decode (rm_code mPattern_isEmpty) 8 = .ok (.goto (4), 3) := by decide +kernel
theorem d_Pattern_isEmpty_11 : decode (rm_code mPattern_isEmpty) 11 = .ok (.iconst 0, 1) := by decide +kernel
theorem d_Pattern_isEmpty_12 : decode (rm_code mPattern_isEmpty) 12 = .ok (.ireturn, 1) := by decide +kernel
theorem p_Pattern_isEmpty_0 {S : rz_S} {K : Int32 → rz_S → Prop} {a0 : Nat} (ha0 : ptP a0) (w : ((S.2 a0 1 = 0 → K 1 S) ∧ (¬ S.2 a0 1 = 0 → K 0 S))) : rz mPattern_isEmpty 0 [(0, .ref a0)] [] S (rz_i K) := by
  refine rz_pure (pc' := 1) d_Pattern_isEmpty_0 rfl ?_
  refine rz_getiv (v := S.2 a0 1) d_Pattern_isEmpty_1 f_6_19 (ptT ha0) rfl rfl ?_
  refine rz_ifne (tgt := 11) d_Pattern_isEmpty_4 rfl (fun b1 => ?_) (fun b1 => ?_)
  · skip
    refine rz_iconst (v := 0) d_Pattern_isEmpty_11 (by decide) ?_
    exact rz_ireti d_Pattern_isEmpty_12 rfl (by decide) (w.2 b1)
  · skip
    refine rz_iconst (v := 1) d_Pattern_isEmpty_7 (by decide) ?_
    refine rz_pure (pc' := 12) d_Pattern_isEmpty_8 rfl ?_
    exact rz_ireti d_Pattern_isEmpty_12 rfl (by decide) (w.1 b1)
theorem d_Pattern_isWild_0 : decode (rm_code mPattern_isWild) 0 = .ok (.iconst 0, 1) := by decide +kernel
theorem d_Pattern_isWild_1 : decode (rm_code mPattern_isWild) 1 = .ok (.istore_n 1, 1) := by decide +kernel
theorem d_Pattern_isWild_2 : decode (rm_code mPattern_isWild) 2 = .ok (.iload_n 1, 1) := by decide +kernel
theorem d_Pattern_isWild_3 : decode (rm_code mPattern_isWild) 3 = .ok (.aload_n 0, 1) := by decide +kernel
theorem d_Pattern_isWild_4 : decode (rm_code mPattern_isWild) 4 = .ok (.getfield 19, 3) := by decide +kernel
theorem d_Pattern_isWild_7 : decode (rm_code mPattern_isWild) 7 = .ok (.if_icmp .ge (39), 3) := by decide +kernel
theorem d_Pattern_isWild_10 : decode (rm_code mPattern_isWild) 10 = .ok (.iload_n 1, 1) := by decide +kernel
theorem d_Pattern_isWild_11 : decode (rm_code mPattern_isWild) 11 = .ok (.bipush (10), 2) := by decide +kernel
theorem d_Pattern_isWild_13 : decode (rm_code mPattern_isWild) 13 = .ok (.if_icmp .ge (33), 3) := by decide +kernel
theorem d_Pattern_isWild_16 : decode (rm_code mPattern_isWild) 16 = .ok (.aload_n 0, 1) := by decide +kernel
theorem d_Pattern_isWild_17 : decode (rm_code mPattern_isWild) 17 = .ok (.getfield 9, 3) := by decide +kernel
theorem d_Pattern_isWild_20 : decode (rm_code mPattern_isWild) 20 = .ok (.iload_n 1, 1) := by decide +kernel
theorem d_Pattern_isWild_21 : decode (rm_code mPattern_isWild) 21 = .ok (.iaload, 1) := by decide +kernel
theorem d_Pattern_isWild_22 : decode (rm_code mPattern_isWild) 22 = .ok (.bipush (42), 2) := by decide +kernel
theorem d_Pattern_isWild_24 : decode (rm_code mPattern_isWild) 24 = .ok (.if_icmp .eq (14), 3) := by decide +kernel
theorem d_Pattern_isWild_27 : decode (rm_code mPattern_isWild) 27 = .ok (.aload_n 0, 1) := by decide +kernel
theorem d_Pattern_isWild_28 : decode (rm_code mPattern_isWild) 28 = .ok (.getfield 9, 3) := by decide +kernel
theorem d_Pattern_isWild_31 : decode (rm_code mPattern_isWild) 31 = .ok (.iload_n 1, 1) := by decide +kernel
theorem d_Pattern_isWild_32 : decode (rm_code mPattern_isWild) 32 = .ok (.iaload, 1) := by decide +kernel
theorem d_Pattern_isWild_33 : decode (rm_code mPattern_isWild) 33 = .ok (.bipush (63), 2) := by decide +kernel
theorem d_Pattern_isWild_35 : decode (rm_code mPattern_isWild) 35 = .ok (.if_icmp .ne (5), 3) := by decide +kernel
theorem d_Pattern_isWild_38 : decode (rm_code mPattern_isWild) 38 = .ok (.iconst 1, 1) := by decide +kernel
theorem d_Pattern_isWild_39 : decode (rm_code mPattern_isWild) 39 = .ok (.ireturn, 1) := by decide +kernel
theorem d_Pattern_isWild_40 : decode (rm_code mPattern_isWild) 40 = .ok (.iinc 1 (1), 3) := by decide +kernel
theorem d_Pattern_isWild_43 : decode (rm_code mPattern_isWild) 43 = .ok (.goto (-41), 3) := by decide +kernel
theorem d_Pattern_isWild_46 : decode (rm_code mPattern_isWild) 46 = .ok (.iconst 0, 1) := by decide +kernel
theorem d_Pattern_isWild_47 : decode (rm_code mPattern_isWild) 47 = .ok (.ireturn, 1) := by decide +kernel
theorem p_Pattern_isWild_0 {S : rz_S} {K : Int32 → rz_S → Prop} {a0 : Nat} (ha0 : ptP a0) (w : rz mPattern_isWild 2 [(0, .ref a0), (1, .int 0)] [] S (rz_i K)) : rz mPattern_isWild 0 [(0, .ref a0)] [] S (rz_i K) := by
  refine rz_iconst (v := 0) d_Pattern_isWild_0 (by decide) ?_
  refine rz_pure (pc' := 2) (l' := [(1, .int 0), (0, .ref a0)]) d_Pattern_isWild_1 rfl ?_
  exact rz_pick (ks := [0, 1]) (l := [(0, .ref a0), (1, .int 0)]) rfl rfl (by decide) rfl w
theorem p_Pattern_isWild_2 {S : rz_S} {K : Int32 → rz_S → Prop} {a0 : Nat} (ha0 : ptP a0) {a1 : Int32} (w : ((S.2 a0 1 ≤ a1 → K 0 S) ∧ (¬ S.2 a0 1 ≤ a1 → ((10 ≤ a1 → K 0 S) ∧ (¬ 10 ≤ a1 → rx_in a1 10 = true ∧ ((S.1 (a0 + 1) a1.toNatClampNeg = 42 → K 1 S) ∧ (¬ S.1 (a0 + 1) a1.toNatClampNeg = 42 → ((S.1 (a0 + 1) a1.toNatClampNeg = 63 → K 1 S) ∧ (¬ S.1 (a0 + 1) a1.toNatClampNeg = 63 → rz mPattern_isWild 2 [(0, .ref a0), (1, .int (a1 + 1))] [] S (rz_i K)))))))))) : rz mPattern_isWild 2 [(0, .ref a0), (1, .int a1)] [] S (rz_i K) := by
  refine rz_pure (pc' := 3) d_Pattern_isWild_2 rfl ?_
  refine rz_pure (pc' := 4) d_Pattern_isWild_3 rfl ?_
  refine rz_getiv (v := S.2 a0 1) d_Pattern_isWild_4 f_6_19 (ptT ha0) rfl rfl ?_
  refine rz_icmpge (tgt := 46) d_Pattern_isWild_7 rfl (fun b1 => ?_) (fun b1 => ?_)
  · skip
    refine rz_iconst (v := 0) d_Pattern_isWild_46 (by decide) ?_
    exact rz_ireti d_Pattern_isWild_47 rfl (by decide) (w.1 b1)
  · skip
    refine rz_pure (pc' := 11) d_Pattern_isWild_10 rfl ?_
    refine rz_bipush (v := 10) d_Pattern_isWild_11 (by decide) ?_
    refine rz_icmpge (tgt := 46) d_Pattern_isWild_13 rfl (fun b2 => ?_) (fun b2 => ?_)
    · skip
      refine rz_iconst (v := 0) d_Pattern_isWild_46 (by decide) ?_
      exact rz_ireti d_Pattern_isWild_47 rfl (by decide) ((w.2 b1).1 b2)
    · skip
      refine rz_pure (pc' := 17) d_Pattern_isWild_16 rfl ?_
      refine rz_getr d_Pattern_isWild_17 f_6_9 (ptT ha0) rfl ?_
      refine rz_pure (pc' := 21) d_Pattern_isWild_20 rfl ?_
      refine rz_ialdv (F := S.1 (a0 + 1)) (i := a1.toNatClampNeg) d_Pattern_isWild_21 (ptR ha0) ((w.2 b1).2 b2).1 rfl rfl ?_
      refine rz_bipush (v := 42) d_Pattern_isWild_22 (by decide) ?_
      refine rz_icmpeq (tgt := 38) d_Pattern_isWild_24 rfl (fun b3 => ?_) (fun b3 => ?_)
      · skip
        refine rz_iconst (v := 1) d_Pattern_isWild_38 (by decide) ?_
        exact rz_ireti d_Pattern_isWild_39 rfl (by decide) (((w.2 b1).2 b2).2.1 b3)
      · skip
        refine rz_pure (pc' := 28) d_Pattern_isWild_27 rfl ?_
        refine rz_getr d_Pattern_isWild_28 f_6_9 (ptT ha0) rfl ?_
        refine rz_pure (pc' := 32) d_Pattern_isWild_31 rfl ?_
        refine rz_ialdv (F := S.1 (a0 + 1)) (i := a1.toNatClampNeg) d_Pattern_isWild_32 (ptR ha0) ((w.2 b1).2 b2).1 rfl rfl ?_
        refine rz_bipush (v := 63) d_Pattern_isWild_33 (by decide) ?_
        refine rz_icmpne (tgt := 40) d_Pattern_isWild_35 rfl (fun b4 => ?_) (fun b4 => ?_)
        · skip
          refine rz_pure (pc' := 43) (l' := [(1, .int (a1 + 1)), (0, .ref a0)]) d_Pattern_isWild_40 rfl ?_
          refine rz_pure (pc' := 2) d_Pattern_isWild_43 rfl ?_
          exact rz_pick (ks := [0, 1]) (l := [(0, .ref a0), (1, .int (a1 + 1))]) rfl rfl (by decide) rfl ((((w.2 b1).2 b2).2.2 b3).2 b4)
        · skip
          refine rz_iconst (v := 1) d_Pattern_isWild_38 (by decide) ?_
          exact rz_ireti d_Pattern_isWild_39 rfl (by decide) ((((w.2 b1).2 b2).2.2 b3).1 b4)
theorem d_BlockMap_begin_0 : decode (rm_code mBlockMap_begin) 0 = .ok (.aload_n 0, 1) := by decide +kernel
theorem d_BlockMap_begin_1 : decode (rm_code mBlockMap_begin) 1 = .ok (.getfield 9, 3) := by decide +kernel
theorem d_BlockMap_begin_4 : decode (rm_code mBlockMap_begin) 4 = .ok (.iconst 0, 1) := by decide +kernel
theorem d_BlockMap_begin_5 : decode (rm_code mBlockMap_begin) 5 = .ok (.invokestatic 26, 3) := by decide +kernel
theorem d_BlockMap_begin_8 : decode (rm_code mBlockMap_begin) 8 = .ok (.aload_n 0, 1) := by decide +kernel
theorem d_BlockMap_begin_9 : decode (rm_code mBlockMap_begin) 9 = .ok (.getfield 9, 3) := by decide +kernel
theorem d_BlockMap_begin_12 : decode (rm_code mBlockMap_begin) 12 = .ok (.iconst 0, 1) := by decide +kernel
theorem d_BlockMap_begin_13 : decode (rm_code mBlockMap_begin) 13 = .ok (.bipush (7), 2) := by decide +kernel
theorem d_BlockMap_begin_15 : decode (rm_code mBlockMap_begin) 15 = .ok (.iastore, 1) := by decide +kernel
theorem d_BlockMap_begin_16 : decode (rm_code mBlockMap_begin) 16 = .ok (.aload_n 0, 1) := by decide +kernel
theorem d_BlockMap_begin_17 : decode (rm_code mBlockMap_begin) 17 = .ok (.getfield 9, 3) := by decide +kernel
theorem d_BlockMap_begin_20 : decode (rm_code mBlockMap_begin) 20 = .ok (.iconst 1, 1) := by decide +kernel
theorem d_BlockMap_begin_21 : decode (rm_code mBlockMap_begin) 21 = .ok (.iconst 1, 1) := by decide +kernel
theorem d_BlockMap_begin_22 : decode (rm_code mBlockMap_begin) 22 = .ok (.iastore, 1) := by decide +kernel
theorem d_BlockMap_begin_23 : decode (rm_code mBlockMap_begin) 23 = .ok (.aload_n 0, 1) := by decide +kernel
theorem d_BlockMap_begin_24 : decode (rm_code mBlockMap_begin) 24 = .ok (.getfield 9, 3) := by decide +kernel
theorem d_BlockMap_begin_27 : decode (rm_code mBlockMap_begin) 27 = .ok (.iconst 2, 1) := by decide +kernel
theorem d_BlockMap_begin_28 : decode (rm_code mBlockMap_begin) 28 = .ok (.bipush (68), 2) := by decide +kernel
theorem d_BlockMap_begin_30 : decode (rm_code mBlockMap_begin) 30 = .ok (.iastore, 1) := by decide +kernel
theorem d_BlockMap_begin_31 : decode (rm_code mBlockMap_begin) 31 = .ok (.aload_n 0, 1) := by decide +kernel
theorem d_BlockMap_begin_32 : decode (rm_code mBlockMap_begin) 32 = .ok (.invokevirtual 32, 3) := by decide +kernel
theorem d_BlockMap_begin_35 : decode (rm_code mBlockMap_begin) 35 = .ok (.aload_n 0, 1) := by decide +kernel
theorem d_BlockMap_begin_36 : decode (rm_code mBlockMap_begin) 36 = .ok (.bipush (7), 2) := by decide +kernel
theorem d_BlockMap_begin_38 : decode (rm_code mBlockMap_begin) 38 = .ok (.iconst 0, 1) := by decide +kernel
theorem d_BlockMap_begin_39 : decode (rm_code mBlockMap_begin) 39 = .ok (.invokevirtual 35, 3) := by decide +kernel
theorem d_BlockMap_begin_42 : decode (rm_code mBlockMap_begin) 42 = .ok (.aload_n 0, 1) := by decide +kernel
theorem d_BlockMap_begin_43 : decode (rm_code mBlockMap_begin) 43 = .ok (.bipush (7), 2) := by decide +kernel
theorem d_BlockMap_begin_45 : decode (rm_code mBlockMap_begin) 45 = .ok (.iconst 1, 1) := by decide +kernel
theorem d_BlockMap_begin_46 : decode (rm_code mBlockMap_begin) 46 = .ok (.invokevirtual 35, 3) := by decide +kernel
theorem d_BlockMap_begin_49 : decode (rm_code mBlockMap_begin) 49 = .ok (.aload_n 1, 1) := by decide +kernel
theorem d_BlockMap_begin_50 : decode (rm_code mBlockMap_begin) 50 = .ok (.aload_n 0, 1) := by decide +kernel
theorem d_BlockMap_begin_51 : decode (rm_code mBlockMap_begin) 51 = .ok (.getfield 9, 3) := by decide +kernel
theorem d_BlockMap_begin_54 : decode (rm_code mBlockMap_begin) 54 = .ok (.bipush (28), 2) := by decide +kernel
theorem d_BlockMap_begin_56 : decode (rm_code mBlockMap_begin) 56 = .ok (.invokevirtual 39, 3) := by decide +kernel
theorem d_BlockMap_begin_59 : decode (rm_code mBlockMap_begin) 59 = .ok (.aload_n 0, 1) := by decide +kernel
theorem d_BlockMap_begin_60 : decode (rm_code mBlockMap_begin) 60 = .ok (.getfield 9, 3) := by decide +kernel
theorem d_BlockMap_begin_63 : decode (rm_code mBlockMap_begin) 63 = .ok (.bipush (38), 2) := by decide +kernel
theorem d_BlockMap_begin_65 : decode (rm_code mBlockMap_begin) 65 = .ok (.aload_n 0, 1) := by decide +kernel
theorem d_BlockMap_begin_66 : decode (rm_code mBlockMap_begin) 66 = .ok (.getfield 15, 3) := by decide +kernel
theorem d_BlockMap_begin_69 : decode (rm_code mBlockMap_begin) 69 = .ok (.getfield 44, 3) := by decide +kernel
theorem d_BlockMap_begin_72 : decode (rm_code mBlockMap_begin) 72 = .ok (.iastore, 1) := by decide +kernel
theorem d_BlockMap_begin_73 : decode (rm_code mBlockMap_begin) 73 = .ok (.aload_n 0, 1) := by decide +kernel
theorem d_BlockMap_begin_74 : decode (rm_code mBlockMap_begin) 74 = .ok (.getfield 9, 3) := by decide +kernel
theorem d_BlockMap_begin_77 : decode (rm_code mBlockMap_begin) 77 = .ok (.bipush (39), 2) := by decide +kernel
theorem d_BlockMap_begin_79 : decode (rm_code mBlockMap_begin) 79 = .ok (.aload_n 0, 1) := by decide +kernel
theorem d_BlockMap_begin_80 : decode (rm_code mBlockMap_begin) 80 = .ok (.getfield 15, 3) := by decide +kernel
theorem d_BlockMap_begin_83 : decode (rm_code mBlockMap_begin) 83 = .ok (.getfield 48, 3) := by decide +kernel
theorem d_BlockMap_begin_86 : decode (rm_code mBlockMap_begin) 86 = .ok (.iastore, 1) := by decide +kernel
theorem d_BlockMap_begin_87 : decode (rm_code mBlockMap_begin) 87 = .ok (.return_, 1) := by decide +kernel
theorem p_BlockMap_begin_0 {S : rz_S} {K : rz_S → Prop} {a1 : Nat} (ha1 : ptP a1) (w : rz_ev mArr_fill [.ref 45, .int 0] S (rz_v (fun Sq1 => rz_ev mBlockMap_freeAll [.ref 44] (rz_fA (rz_fA (rz_fA Sq1 45 (upd (Sq1.1 45) 0 7)) 45 (upd (upd (Sq1.1 45) 0 7) 1 1)) 45 (upd (upd (upd (Sq1.1 45) 0 7) 1 1) 2 68)) (rz_v (fun Sq2 => rz_ev mBlockMap_takeBlock [.ref 44, .int 7, .int 0] Sq2 (rz_v (fun Sq3 => rz_ev mBlockMap_takeBlock [.ref 44, .int 7, .int 1] Sq3 (rz_v (fun Sq4 => rz_ev mPattern_putInto [.ref a1, .ref 45, .int 28] Sq4 (rz_v (fun Sq5 => K (rz_fA (rz_fA Sq5 45 (upd (Sq5.1 45) 38 (Sq5.2 6 1))) 45 (upd (upd (Sq5.1 45) 38 (Sq5.2 6 1)) 39 (Sq5.2 6 2)))))))))))))) : rz mBlockMap_begin 0 [(0, .ref 44), (1, .ref a1)] [] S (rz_v K) := by
  refine rz_pure (pc' := 1) d_BlockMap_begin_0 rfl ?_
  refine rz_getr d_BlockMap_begin_1 f_0_9 rfl rfl ?_
  refine rz_iconst (v := 0) d_BlockMap_begin_4 (by decide) ?_
  refine rz_callSv (t := [.int 0, .ref 45]) d_BlockMap_begin_5 rfl w_0_26 rfl rfl w (fun Sq1 q1 => ?_)
  refine rz_pure (pc' := 9) d_BlockMap_begin_8 rfl ?_
  refine rz_getr d_BlockMap_begin_9 f_0_9 rfl rfl ?_
  refine rz_iconst (v := 0) d_BlockMap_begin_12 (by decide) ?_
  refine rz_bipush (v := 7) d_BlockMap_begin_13 (by decide) ?_
  refine rz_iastv (F := Sq1.1 45) (i := 0) d_BlockMap_begin_15 rfl (by decide) rfl (by decide) ?_
  refine rz_pure (pc' := 17) d_BlockMap_begin_16 rfl ?_
  refine rz_getr d_BlockMap_begin_17 f_0_9 rfl rfl ?_
  refine rz_iconst (v := 1) d_BlockMap_begin_20 (by decide) ?_
  refine rz_iconst (v := 1) d_BlockMap_begin_21 (by decide) ?_
  refine rz_iastv (F := upd (Sq1.1 45) 0 7) (i := 1) d_BlockMap_begin_22 rfl (by decide) rz_fA_s (by decide) ?_
  refine rz_pure (pc' := 24) d_BlockMap_begin_23 rfl ?_
  refine rz_getr d_BlockMap_begin_24 f_0_9 rfl rfl ?_
  refine rz_iconst (v := 2) d_BlockMap_begin_27 (by decide) ?_
  refine rz_bipush (v := 68) d_BlockMap_begin_28 (by decide) ?_
  refine rz_iastv (F := upd (upd (Sq1.1 45) 0 7) 1 1) (i := 2) d_BlockMap_begin_30 rfl (by decide) rz_fA_s (by decide) ?_
  refine rz_pure (pc' := 32) d_BlockMap_begin_31 rfl ?_
  refine rz_callVv (t := []) d_BlockMap_begin_32 w_0_32 rfl rfl rfl q1 (fun Sq2 q2 => ?_)
  refine rz_pure (pc' := 36) d_BlockMap_begin_35 rfl ?_
  refine rz_bipush (v := 7) d_BlockMap_begin_36 (by decide) ?_
  refine rz_iconst (v := 0) d_BlockMap_begin_38 (by decide) ?_
  refine rz_callVv (t := [.int 0, .int 7]) d_BlockMap_begin_39 w_0_35 rfl rfl rfl q2 (fun Sq3 q3 => ?_)
  refine rz_pure (pc' := 43) d_BlockMap_begin_42 rfl ?_
  refine rz_bipush (v := 7) d_BlockMap_begin_43 (by decide) ?_
  refine rz_iconst (v := 1) d_BlockMap_begin_45 (by decide) ?_
  refine rz_callVv (t := [.int 1, .int 7]) d_BlockMap_begin_46 w_0_35 rfl rfl rfl q3 (fun Sq4 q4 => ?_)
  refine rz_pure (pc' := 50) d_BlockMap_begin_49 rfl ?_
  refine rz_pure (pc' := 51) d_BlockMap_begin_50 rfl ?_
  refine rz_getr d_BlockMap_begin_51 f_0_9 rfl rfl ?_
  refine rz_bipush (v := 28) d_BlockMap_begin_54 (by decide) ?_
  refine rz_callVv (t := [.int 28, .ref 45]) d_BlockMap_begin_56 w_0_39 rfl (ptT ha1) rfl q4 (fun Sq5 q5 => ?_)
  refine rz_pure (pc' := 60) d_BlockMap_begin_59 rfl ?_
  refine rz_getr d_BlockMap_begin_60 f_0_9 rfl rfl ?_
  refine rz_bipush (v := 38) d_BlockMap_begin_63 (by decide) ?_
  refine rz_pure (pc' := 66) d_BlockMap_begin_65 rfl ?_
  refine rz_getr d_BlockMap_begin_66 f_0_15 rfl rfl ?_
  refine rz_getiv (v := Sq5.2 6 1) d_BlockMap_begin_69 f_0_44 rfl rfl rfl ?_
  refine rz_iastv (F := Sq5.1 45) (i := 38) d_BlockMap_begin_72 rfl (by decide) rfl (by decide) ?_
  refine rz_pure (pc' := 74) d_BlockMap_begin_73 rfl ?_
  refine rz_getr d_BlockMap_begin_74 f_0_9 rfl rfl ?_
  refine rz_bipush (v := 39) d_BlockMap_begin_77 (by decide) ?_
  refine rz_pure (pc' := 80) d_BlockMap_begin_79 rfl ?_
  refine rz_getr d_BlockMap_begin_80 f_0_15 rfl rfl ?_
  refine rz_getiv (v := Sq5.2 6 2) d_BlockMap_begin_83 f_0_48 rfl rfl rfl ?_
  refine rz_iastv (F := upd (Sq5.1 45) 38 (Sq5.2 6 1)) (i := 39) d_BlockMap_begin_86 rfl (by decide) rz_fA_s (by decide) ?_
  exact rz_vretv d_BlockMap_begin_87 rfl q5
theorem d_BlockMap_freeAll_0 : decode (rm_code mBlockMap_freeAll) 0 = .ok (.iconst 1, 1) := by decide +kernel
theorem d_BlockMap_freeAll_1 : decode (rm_code mBlockMap_freeAll) 1 = .ok (.istore_n 1, 1) := by decide +kernel
theorem d_BlockMap_freeAll_2 : decode (rm_code mBlockMap_freeAll) 2 = .ok (.iload_n 1, 1) := by decide +kernel
theorem d_BlockMap_freeAll_3 : decode (rm_code mBlockMap_freeAll) 3 = .ok (.bipush (12), 2) := by decide +kernel
theorem d_BlockMap_freeAll_5 : decode (rm_code mBlockMap_freeAll) 5 = .ok (.if_icmp .gt (41), 3) := by decide +kernel
theorem d_BlockMap_freeAll_8 : decode (rm_code mBlockMap_freeAll) 8 = .ok (.aload_n 0, 1) := by decide +kernel
theorem d_BlockMap_freeAll_9 : decode (rm_code mBlockMap_freeAll) 9 = .ok (.getfield 9, 3) := by decide +kernel
theorem d_BlockMap_freeAll_12 : decode (rm_code mBlockMap_freeAll) 12 = .ok (.iconst 2, 1) := by decide +kernel
theorem d_BlockMap_freeAll_13 : decode (rm_code mBlockMap_freeAll) 13 = .ok (.iconst 2, 1) := by decide +kernel
theorem d_BlockMap_freeAll_14 : decode (rm_code mBlockMap_freeAll) 14 = .ok (.iload_n 1, 1) := by decide +kernel
theorem d_BlockMap_freeAll_15 : decode (rm_code mBlockMap_freeAll) 15 = .ok (.imul, 1) := by decide +kernel
theorem d_BlockMap_freeAll_16 : decode (rm_code mBlockMap_freeAll) 16 = .ok (.iadd, 1) := by decide +kernel
theorem d_BlockMap_freeAll_17 : decode (rm_code mBlockMap_freeAll) 17 = .ok (.iload_n 1, 1) := by decide +kernel
theorem d_BlockMap_freeAll_18 : decode (rm_code mBlockMap_freeAll) 18 = .ok (.invokestatic 51, 3) := by decide +kernel
theorem d_BlockMap_freeAll_21 : decode (rm_code mBlockMap_freeAll) 21 = .ok (.iastore, 1) := by decide +kernel
theorem d_BlockMap_freeAll_22 : decode (rm_code mBlockMap_freeAll) 22 = .ok (.aload_n 0, 1) := by decide +kernel
theorem d_BlockMap_freeAll_23 : decode (rm_code mBlockMap_freeAll) 23 = .ok (.getfield 9, 3) := by decide +kernel
theorem d_BlockMap_freeAll_26 : decode (rm_code mBlockMap_freeAll) 26 = .ok (.iconst 3, 1) := by decide +kernel
theorem d_BlockMap_freeAll_27 : decode (rm_code mBlockMap_freeAll) 27 = .ok (.iconst 2, 1) := by decide +kernel
theorem d_BlockMap_freeAll_28 : decode (rm_code mBlockMap_freeAll) 28 = .ok (.iload_n 1, 1) := by decide +kernel
theorem d_BlockMap_freeAll_29 : decode (rm_code mBlockMap_freeAll) 29 = .ok (.imul, 1) := by decide +kernel
theorem d_BlockMap_freeAll_30 : decode (rm_code mBlockMap_freeAll) 30 = .ok (.iadd, 1) := by decide +kernel
theorem d_BlockMap_freeAll_31 : decode (rm_code mBlockMap_freeAll) 31 = .ok (.iconst 1, 1) := by decide +kernel
theorem d_BlockMap_freeAll_32 : decode (rm_code mBlockMap_freeAll) 32 = .ok (.iload_n 1, 1) := by decide +kernel
theorem d_BlockMap_freeAll_33 : decode (rm_code mBlockMap_freeAll) 33 = .ok (.invokestatic 51, 3) := by decide +kernel
theorem d_BlockMap_freeAll_36 : decode (rm_code mBlockMap_freeAll) 36 = .ok (.ishl, 1) := by decide +kernel
theorem d_BlockMap_freeAll_37 : decode (rm_code mBlockMap_freeAll) 37 = .ok (.iconst 1, 1) := by decide +kernel
theorem d_BlockMap_freeAll_38 : decode (rm_code mBlockMap_freeAll) 38 = .ok (.isub, 1) := by decide +kernel
theorem d_BlockMap_freeAll_39 : decode (rm_code mBlockMap_freeAll) 39 = .ok (.iastore, 1) := by decide +kernel
theorem d_BlockMap_freeAll_40 : decode (rm_code mBlockMap_freeAll) 40 = .ok (.iinc 1 (1), 3) := by decide +kernel
theorem d_BlockMap_freeAll_43 : decode (rm_code mBlockMap_freeAll) 43 = .ok (.goto (-41), 3) := by decide +kernel
theorem d_BlockMap_freeAll_46 : decode (rm_code mBlockMap_freeAll) 46 = .ok (.return_, 1) := by decide +kernel
theorem p_BlockMap_freeAll_0 {S : rz_S} {K : rz_S → Prop} (w : rz mBlockMap_freeAll 2 [(0, .ref 44), (1, .int 1)] [] S (rz_v K)) : rz mBlockMap_freeAll 0 [(0, .ref 44)] [] S (rz_v K) := by
  refine rz_iconst (v := 1) d_BlockMap_freeAll_0 (by decide) ?_
  refine rz_pure (pc' := 2) (l' := [(1, .int 1), (0, .ref 44)]) d_BlockMap_freeAll_1 rfl ?_
  exact rz_pick (ks := [0, 1]) (l := [(0, .ref 44), (1, .int 1)]) rfl rfl (by decide) rfl w
theorem p_BlockMap_freeAll_2 {S : rz_S} {K : rz_S → Prop} {a1 : Int32} (w : ((12 < a1 → K S) ∧ (¬ 12 < a1 → rz_ev mDisk_sectorsOf [.int a1] S (rz_i (fun xq2 Sq2 => rx_in (2 + (2 * a1)) 64 = true ∧ rz_ev mDisk_sectorsOf [.int a1] (rz_fA Sq2 45 (upd (Sq2.1 45) ((2 + (2 * a1)).toNatClampNeg) xq2)) (rz_i (fun xq3 Sq3 => rx_in (3 + (2 * a1)) 64 = true ∧ rz mBlockMap_freeAll 2 [(0, .ref 44), (1, .int (a1 + 1))] [] (rz_fA Sq3 45 (upd (Sq3.1 45) ((3 + (2 * a1)).toNatClampNeg) ((1 <<< (xq3 &&& 31)) - 1))) (rz_v K)))))))) : rz mBlockMap_freeAll 2 [(0, .ref 44), (1, .int a1)] [] S (rz_v K) := by
  refine rz_pure (pc' := 3) d_BlockMap_freeAll_2 rfl ?_
  refine rz_bipush (v := 12) d_BlockMap_freeAll_3 (by decide) ?_
  refine rz_icmpgt (tgt := 46) d_BlockMap_freeAll_5 rfl (fun b1 => ?_) (fun b1 => ?_)
  · skip
    exact rz_vretv d_BlockMap_freeAll_46 rfl (w.1 b1)
  · skip
    refine rz_pure (pc' := 9) d_BlockMap_freeAll_8 rfl ?_
    refine rz_getr d_BlockMap_freeAll_9 f_0_9 rfl rfl ?_
    refine rz_iconst (v := 2) d_BlockMap_freeAll_12 (by decide) ?_
    refine rz_iconst (v := 2) d_BlockMap_freeAll_13 (by decide) ?_
    refine rz_pure (pc' := 15) d_BlockMap_freeAll_14 rfl ?_
    refine rz_imul d_BlockMap_freeAll_15 ?_
    refine rz_iadd d_BlockMap_freeAll_16 ?_
    refine rz_pure (pc' := 18) d_BlockMap_freeAll_17 rfl ?_
    refine rz_callSi (t := [.int a1]) d_BlockMap_freeAll_18 rfl w_0_51 rfl rfl (w.2 b1) (fun xq2 Sq2 q2 => ?_)
    refine rz_iastv (F := Sq2.1 45) (i := (2 + (2 * a1)).toNatClampNeg) d_BlockMap_freeAll_21 rfl q2.1 rfl rfl ?_
    refine rz_pure (pc' := 23) d_BlockMap_freeAll_22 rfl ?_
    refine rz_getr d_BlockMap_freeAll_23 f_0_9 rfl rfl ?_
    refine rz_iconst (v := 3) d_BlockMap_freeAll_26 (by decide) ?_
    refine rz_iconst (v := 2) d_BlockMap_freeAll_27 (by decide) ?_
    refine rz_pure (pc' := 29) d_BlockMap_freeAll_28 rfl ?_
    refine rz_imul d_BlockMap_freeAll_29 ?_
    refine rz_iadd d_BlockMap_freeAll_30 ?_
    refine rz_iconst (v := 1) d_BlockMap_freeAll_31 (by decide) ?_
    refine rz_pure (pc' := 33) d_BlockMap_freeAll_32 rfl ?_
    refine rz_callSi (t := [.int a1]) d_BlockMap_freeAll_33 rfl w_0_51 rfl rfl q2.2 (fun xq3 Sq3 q3 => ?_)
    refine rz_ishl d_BlockMap_freeAll_36 ?_
    refine rz_iconst (v := 1) d_BlockMap_freeAll_37 (by decide) ?_
    refine rz_isub d_BlockMap_freeAll_38 ?_
    refine rz_iastv (F := Sq3.1 45) (i := (3 + (2 * a1)).toNatClampNeg) d_BlockMap_freeAll_39 rfl q3.1 rfl rfl ?_
    refine rz_pure (pc' := 43) (l' := [(1, .int (a1 + 1)), (0, .ref 44)]) d_BlockMap_freeAll_40 rfl ?_
    refine rz_pure (pc' := 2) d_BlockMap_freeAll_43 rfl ?_
    exact rz_pick (ks := [0, 1]) (l := [(0, .ref 44), (1, .int (a1 + 1))]) rfl rfl (by decide) rfl q3.2
theorem d_BlockMap_takeBlock_0 : decode (rm_code mBlockMap_takeBlock) 0 = .ok (.iload_n 1, 1) := by decide +kernel
theorem d_BlockMap_takeBlock_1 : decode (rm_code mBlockMap_takeBlock) 1 = .ok (.iload_n 2, 1) := by decide +kernel
theorem d_BlockMap_takeBlock_2 : decode (rm_code mBlockMap_takeBlock) 2 = .ok (.invokestatic 58, 3) := by decide +kernel
theorem d_BlockMap_takeBlock_5 : decode (rm_code mBlockMap_takeBlock) 5 = .ok (.ifCond .eq (65), 3) := by decide +kernel
theorem d_BlockMap_takeBlock_8 : decode (rm_code mBlockMap_takeBlock) 8 = .ok (.aload_n 0, 1) := by decide +kernel
theorem d_BlockMap_takeBlock_9 : decode (rm_code mBlockMap_takeBlock) 9 = .ok (.getfield 9, 3) := by decide +kernel
theorem d_BlockMap_takeBlock_12 : decode (rm_code mBlockMap_takeBlock) 12 = .ok (.iconst 3, 1) := by decide +kernel
theorem d_BlockMap_takeBlock_13 : decode (rm_code mBlockMap_takeBlock) 13 = .ok (.iconst 2, 1) := by decide +kernel
theorem d_BlockMap_takeBlock_14 : decode (rm_code mBlockMap_takeBlock) 14 = .ok (.iload_n 1, 1) := by decide +kernel
theorem d_BlockMap_takeBlock_15 : decode (rm_code mBlockMap_takeBlock) 15 = .ok (.imul, 1) := by decide +kernel
theorem d_BlockMap_takeBlock_16 : decode (rm_code mBlockMap_takeBlock) 16 = .ok (.iadd, 1) := by decide +kernel
theorem d_BlockMap_takeBlock_17 : decode (rm_code mBlockMap_takeBlock) 17 = .ok (.iaload, 1) := by decide +kernel
theorem d_BlockMap_takeBlock_18 : decode (rm_code mBlockMap_takeBlock) 18 = .ok (.iload_n 2, 1) := by decide +kernel
theorem d_BlockMap_takeBlock_19 : decode (rm_code mBlockMap_takeBlock) 19 = .ok (.ishr, 1) := by decide +kernel
theorem d_BlockMap_takeBlock_20 : decode (rm_code mBlockMap_takeBlock) 20 = .ok (.iconst 1, 1) := by decide +kernel
theorem d_BlockMap_takeBlock_21 : decode (rm_code mBlockMap_takeBlock) 21 = .ok (.iand, 1) := by decide +kernel
theorem d_BlockMap_takeBlock_22 : decode (rm_code mBlockMap_takeBlock) 22 = .ok (.iconst 1, 1) := by decide +kernel
theorem d_BlockMap_takeBlock_23 : decode (rm_code mBlockMap_takeBlock) 23 = .ok (.if_icmp .ne (47), 3) := by decide +kernel
theorem d_BlockMap_takeBlock_26 : decode (rm_code mBlockMap_takeBlock) 26 = .ok (.aload_n 0, 1) := by decide +kernel
theorem d_BlockMap_takeBlock_27 : decode (rm_code mBlockMap_takeBlock) 27 = .ok (.getfield 9, 3) := by decide +kernel
theorem d_BlockMap_takeBlock_30 : decode (rm_code mBlockMap_takeBlock) 30 = .ok (.iconst 3, 1) := by decide +kernel
theorem d_BlockMap_takeBlock_31 : decode (rm_code mBlockMap_takeBlock) 31 = .ok (.iconst 2, 1) := by decide +kernel
theorem d_BlockMap_takeBlock_32 : decode (rm_code mBlockMap_takeBlock) 32 = .ok (.iload_n 1, 1) := by decide +kernel
theorem d_BlockMap_takeBlock_33 : decode (rm_code mBlockMap_takeBlock) 33 = .ok (.imul, 1) := by decide +kernel
theorem d_BlockMap_takeBlock_34 : decode (rm_code mBlockMap_takeBlock) 34 = .ok (.iadd, 1) := by decide +kernel
theorem d_BlockMap_takeBlock_35 : decode (rm_code mBlockMap_takeBlock) 35 = .ok (.dup2, 1) := by decide +kernel
theorem d_BlockMap_takeBlock_36 : decode (rm_code mBlockMap_takeBlock) 36 = .ok (.iaload, 1) := by decide +kernel
theorem d_BlockMap_takeBlock_37 : decode (rm_code mBlockMap_takeBlock) 37 = .ok (.iconst 1, 1) := by decide +kernel
theorem d_BlockMap_takeBlock_38 : decode (rm_code mBlockMap_takeBlock) 38 = .ok (.iload_n 2, 1) := by decide +kernel
theorem d_BlockMap_takeBlock_39 : decode (rm_code mBlockMap_takeBlock) 39 = .ok (.ishl, 1) := by decide +kernel
theorem d_BlockMap_takeBlock_40 : decode (rm_code mBlockMap_takeBlock) 40 = .ok (.iconst (-1), 1) := by decide +kernel
theorem d_BlockMap_takeBlock_41 : decode (rm_code mBlockMap_takeBlock) 41 = .ok (.ixor, 1) := by decide +kernel
theorem d_BlockMap_takeBlock_42 : decode (rm_code mBlockMap_takeBlock) 42 = .ok (.iand, 1) := by decide +kernel
theorem d_BlockMap_takeBlock_43 : decode (rm_code mBlockMap_takeBlock) 43 = .ok (.iastore, 1) := by decide +kernel
theorem d_BlockMap_takeBlock_44 : decode (rm_code mBlockMap_takeBlock) 44 = .ok (.aload_n 0, 1) := by decide +kernel
theorem d_BlockMap_takeBlock_45 : decode (rm_code mBlockMap_takeBlock) 45 = .ok (.getfield 9, 3) := by decide +kernel
theorem d_BlockMap_takeBlock_48 : decode (rm_code mBlockMap_takeBlock) 48 = .ok (.iconst 2, 1) := by decide +kernel
theorem d_BlockMap_takeBlock_49 : decode (rm_code mBlockMap_takeBlock) 49 = .ok (.iconst 2, 1) := by decide +kernel
theorem d_BlockMap_takeBlock_50 : decode (rm_code mBlockMap_takeBlock) 50 = .ok (.iload_n 1, 1) := by decide +kernel
theorem d_BlockMap_takeBlock_51 : decode (rm_code mBlockMap_takeBlock) 51 = .ok (.imul, 1) := by decide +kernel
theorem d_BlockMap_takeBlock_52 : decode (rm_code mBlockMap_takeBlock) 52 = .ok (.iadd, 1) := by decide +kernel
theorem d_BlockMap_takeBlock_53 : decode (rm_code mBlockMap_takeBlock) 53 = .ok (.aload_n 0, 1) := by decide +kernel
theorem d_BlockMap_takeBlock_54 : decode (rm_code mBlockMap_takeBlock) 54 = .ok (.getfield 9, 3) := by decide +kernel
theorem d_BlockMap_takeBlock_57 : decode (rm_code mBlockMap_takeBlock) 57 = .ok (.iconst 2, 1) := by decide +kernel
theorem d_BlockMap_takeBlock_58 : decode (rm_code mBlockMap_takeBlock) 58 = .ok (.iconst 2, 1) := by decide +kernel
theorem d_BlockMap_takeBlock_59 : decode (rm_code mBlockMap_takeBlock) 59 = .ok (.iload_n 1, 1) := by decide +kernel
theorem d_BlockMap_takeBlock_60 : decode (rm_code mBlockMap_takeBlock) 60 = .ok (.imul, 1) := by decide +kernel
theorem d_BlockMap_takeBlock_61 : decode (rm_code mBlockMap_takeBlock) 61 = .ok (.iadd, 1) := by decide +kernel
theorem d_BlockMap_takeBlock_62 : decode (rm_code mBlockMap_takeBlock) 62 = .ok (.iaload, 1) := by decide +kernel
theorem d_BlockMap_takeBlock_63 : decode (rm_code mBlockMap_takeBlock) 63 = .ok (.iconst 1, 1) := by decide +kernel
theorem d_BlockMap_takeBlock_64 : decode (rm_code mBlockMap_takeBlock) 64 = .ok (.isub, 1) := by decide +kernel
theorem d_BlockMap_takeBlock_65 : decode (rm_code mBlockMap_takeBlock) 65 = .ok (.sipush (255), 3) := by decide +kernel
theorem d_BlockMap_takeBlock_68 : decode (rm_code mBlockMap_takeBlock) 68 = .ok (.iand, 1) := by decide +kernel
theorem d_BlockMap_takeBlock_69 : decode (rm_code mBlockMap_takeBlock) 69 = .ok (.iastore, 1) := by decide +kernel
theorem d_BlockMap_takeBlock_70 : decode (rm_code mBlockMap_takeBlock) 70 = .ok (.return_, 1) := by decide +kernel
theorem p_BlockMap_takeBlock_0 {S : rz_S} {K : rz_S → Prop} {a1 : Int32} {a2 : Int32} (w : rz_ev mDisk_isLegal [.int a1, .int a2] S (rz_i (fun xq1 Sq1 => ((xq1 = 0 → K Sq1) ∧ (¬ xq1 = 0 → rx_in (3 + (2 * a1)) 64 = true ∧ ((((Sq1.1 45 ((3 + (2 * a1)).toNatClampNeg)) >>> (a2 &&& 31)) &&& 1 = 1 → rx_in (2 + (2 * a1)) 64 = true ∧ K (rz_fA (rz_fA Sq1 45 (upd (Sq1.1 45) ((3 + (2 * a1)).toNatClampNeg) ((Sq1.1 45 ((3 + (2 * a1)).toNatClampNeg)) &&& ((1 <<< (a2 &&& 31)) ^^^ (-1))))) 45 (upd (upd (Sq1.1 45) ((3 + (2 * a1)).toNatClampNeg) ((Sq1.1 45 ((3 + (2 * a1)).toNatClampNeg)) &&& ((1 <<< (a2 &&& 31)) ^^^ (-1)))) ((2 + (2 * a1)).toNatClampNeg) ((((upd (Sq1.1 45) ((3 + (2 * a1)).toNatClampNeg) ((Sq1.1 45 ((3 + (2 * a1)).toNatClampNeg)) &&& ((1 <<< (a2 &&& 31)) ^^^ (-1)))) ((2 + (2 * a1)).toNatClampNeg)) - 1) &&& 255)))) ∧ (¬ ((Sq1.1 45 ((3 + (2 * a1)).toNatClampNeg)) >>> (a2 &&& 31)) &&& 1 = 1 → K Sq1))))))) : rz mBlockMap_takeBlock 0 [(0, .ref 44), (1, .int a1), (2, .int a2)] [] S (rz_v K) := by
  refine rz_pure (pc' := 1) d_BlockMap_takeBlock_0 rfl ?_
  refine rz_pure (pc' := 2) d_BlockMap_takeBlock_1 rfl ?_
  refine rz_callSi (t := [.int a2, .int a1]) d_BlockMap_takeBlock_2 rfl w_0_58 rfl rfl w (fun xq1 Sq1 q1 => ?_)
  refine rz_ifeq (tgt := 70) d_BlockMap_takeBlock_5 rfl (fun b2 => ?_) (fun b2 => ?_)
  · skip
    exact rz_vretv d_BlockMap_takeBlock_70 rfl (q1.1 b2)
  · skip
    refine rz_pure (pc' := 9) d_BlockMap_takeBlock_8 rfl ?_
    refine rz_getr d_BlockMap_takeBlock_9 f_0_9 rfl rfl ?_
    refine rz_iconst (v := 3) d_BlockMap_takeBlock_12 (by decide) ?_
    refine rz_iconst (v := 2) d_BlockMap_takeBlock_13 (by decide) ?_
    refine rz_pure (pc' := 15) d_BlockMap_takeBlock_14 rfl ?_
    refine rz_imul d_BlockMap_takeBlock_15 ?_
    refine rz_iadd d_BlockMap_takeBlock_16 ?_
    refine rz_ialdv (F := Sq1.1 45) (i := (3 + (2 * a1)).toNatClampNeg) d_BlockMap_takeBlock_17 rfl (q1.2 b2).1 rfl rfl ?_
    refine rz_pure (pc' := 19) d_BlockMap_takeBlock_18 rfl ?_
    refine rz_ishr d_BlockMap_takeBlock_19 ?_
    refine rz_iconst (v := 1) d_BlockMap_takeBlock_20 (by decide) ?_
    refine rz_iand d_BlockMap_takeBlock_21 ?_
    refine rz_iconst (v := 1) d_BlockMap_takeBlock_22 (by decide) ?_
    refine rz_icmpne (tgt := 70) d_BlockMap_takeBlock_23 rfl (fun b3 => ?_) (fun b3 => ?_)
    · skip
      exact rz_vretv d_BlockMap_takeBlock_70 rfl ((q1.2 b2).2.2 b3)
    · skip
      refine rz_pure (pc' := 27) d_BlockMap_takeBlock_26 rfl ?_
      refine rz_getr d_BlockMap_takeBlock_27 f_0_9 rfl rfl ?_
      refine rz_iconst (v := 3) d_BlockMap_takeBlock_30 (by decide) ?_
      refine rz_iconst (v := 2) d_BlockMap_takeBlock_31 (by decide) ?_
      refine rz_pure (pc' := 33) d_BlockMap_takeBlock_32 rfl ?_
      refine rz_imul d_BlockMap_takeBlock_33 ?_
      refine rz_iadd d_BlockMap_takeBlock_34 ?_
      refine rz_pure (pc' := 36) d_BlockMap_takeBlock_35 rfl ?_
      refine rz_ialdv (F := Sq1.1 45) (i := (3 + (2 * a1)).toNatClampNeg) d_BlockMap_takeBlock_36 rfl (q1.2 b2).1 rfl rfl ?_
      refine rz_iconst (v := 1) d_BlockMap_takeBlock_37 (by decide) ?_
      refine rz_pure (pc' := 39) d_BlockMap_takeBlock_38 rfl ?_
      refine rz_ishl d_BlockMap_takeBlock_39 ?_
      refine rz_iconst (v := -1) d_BlockMap_takeBlock_40 (by decide) ?_
      refine rz_ixor d_BlockMap_takeBlock_41 ?_
      refine rz_iand d_BlockMap_takeBlock_42 ?_
      refine rz_iastv (F := Sq1.1 45) (i := (3 + (2 * a1)).toNatClampNeg) d_BlockMap_takeBlock_43 rfl (q1.2 b2).1 rfl rfl ?_
      refine rz_pure (pc' := 45) d_BlockMap_takeBlock_44 rfl ?_
      refine rz_getr d_BlockMap_takeBlock_45 f_0_9 rfl rfl ?_
      refine rz_iconst (v := 2) d_BlockMap_takeBlock_48 (by decide) ?_
      refine rz_iconst (v := 2) d_BlockMap_takeBlock_49 (by decide) ?_
      refine rz_pure (pc' := 51) d_BlockMap_takeBlock_50 rfl ?_
      refine rz_imul d_BlockMap_takeBlock_51 ?_
      refine rz_iadd d_BlockMap_takeBlock_52 ?_
      refine rz_pure (pc' := 54) d_BlockMap_takeBlock_53 rfl ?_
      refine rz_getr d_BlockMap_takeBlock_54 f_0_9 rfl rfl ?_
      refine rz_iconst (v := 2) d_BlockMap_takeBlock_57 (by decide) ?_
      refine rz_iconst (v := 2) d_BlockMap_takeBlock_58 (by decide) ?_
      refine rz_pure (pc' := 60) d_BlockMap_takeBlock_59 rfl ?_
      refine rz_imul d_BlockMap_takeBlock_60 ?_
      refine rz_iadd d_BlockMap_takeBlock_61 ?_
      refine rz_ialdv (F := upd (Sq1.1 45) ((3 + (2 * a1)).toNatClampNeg) ((Sq1.1 45 ((3 + (2 * a1)).toNatClampNeg)) &&& ((1 <<< (a2 &&& 31)) ^^^ (-1)))) (i := (2 + (2 * a1)).toNatClampNeg) d_BlockMap_takeBlock_62 rfl ((q1.2 b2).2.1 b3).1 rz_fA_s rfl ?_
      refine rz_iconst (v := 1) d_BlockMap_takeBlock_63 (by decide) ?_
      refine rz_isub d_BlockMap_takeBlock_64 ?_
      refine rz_sipush (v := 255) d_BlockMap_takeBlock_65 (by decide) ?_
      refine rz_iand d_BlockMap_takeBlock_68 ?_
      refine rz_iastv (F := upd (Sq1.1 45) ((3 + (2 * a1)).toNatClampNeg) ((Sq1.1 45 ((3 + (2 * a1)).toNatClampNeg)) &&& ((1 <<< (a2 &&& 31)) ^^^ (-1)))) (i := (2 + (2 * a1)).toNatClampNeg) d_BlockMap_takeBlock_69 rfl ((q1.2 b2).2.1 b3).1 rz_fA_s rfl ?_
      exact rz_vretv d_BlockMap_takeBlock_70 rfl ((q1.2 b2).2.1 b3).2
theorem d_Pattern_putInto_0 : decode (rm_code mPattern_putInto) 0 = .ok (.iconst 0, 1) := by decide +kernel
theorem d_Pattern_putInto_1 : decode (rm_code mPattern_putInto) 1 = .ok (.istore_n 3, 1) := by decide +kernel
theorem d_Pattern_putInto_2 : decode (rm_code mPattern_putInto) 2 = .ok (.iload_n 3, 1) := by decide +kernel
theorem d_Pattern_putInto_3 : decode (rm_code mPattern_putInto) 3 = .ok (.bipush (10), 2) := by decide +kernel
theorem d_Pattern_putInto_5 : decode (rm_code mPattern_putInto) 5 = .ok (.if_icmp .ge (31), 3) := by decide +kernel
theorem d_Pattern_putInto_8 : decode (rm_code mPattern_putInto) 8 = .ok (.iload_n 2, 1) := by decide +kernel
theorem d_Pattern_putInto_9 : decode (rm_code mPattern_putInto) 9 = .ok (.ifCond .lt (27), 3) := by decide +kernel
theorem d_Pattern_putInto_12 : decode (rm_code mPattern_putInto) 12 = .ok (.iload_n 2, 1) := by decide +kernel
theorem d_Pattern_putInto_13 : decode (rm_code mPattern_putInto) 13 = .ok (.iload_n 3, 1) := by decide +kernel
theorem d_Pattern_putInto_14 : decode (rm_code mPattern_putInto) 14 = .ok (.iadd, 1) := by decide +kernel
theorem d_Pattern_putInto_15 : decode (rm_code mPattern_putInto) 15 = .ok (.aload_n 1, 1) := by decide +kernel
theorem d_Pattern_putInto_16 : decode (rm_code mPattern_putInto) 16 = .ok (.arraylength, 1) := by decide +kernel
theorem d_Pattern_putInto_17 : decode (rm_code mPattern_putInto) 17 = .ok (.if_icmp .ge (19), 3) := by decide +kernel
theorem d_Pattern_putInto_20 : decode (rm_code mPattern_putInto) 20 = .ok (.aload_n 1, 1) := by decide +kernel
theorem d_Pattern_putInto_21 : decode (rm_code mPattern_putInto) 21 = .ok (.iload_n 2, 1) := by decide +kernel
theorem d_Pattern_putInto_22 : decode (rm_code mPattern_putInto) 22 = .ok (.iload_n 3, 1) := by decide +kernel
theorem d_Pattern_putInto_23 : decode (rm_code mPattern_putInto) 23 = .ok (.iadd, 1) := by decide +kernel
theorem d_Pattern_putInto_24 : decode (rm_code mPattern_putInto) 24 = .ok (.aload_n 0, 1) := by decide +kernel
theorem d_Pattern_putInto_25 : decode (rm_code mPattern_putInto) 25 = .ok (.iload_n 3, 1) := by decide +kernel
theorem d_Pattern_putInto_26 : decode (rm_code mPattern_putInto) 26 = .ok (.invokevirtual 35, 3) := by decide +kernel
theorem d_Pattern_putInto_29 : decode (rm_code mPattern_putInto) 29 = .ok (.iastore, 1) := by decide +kernel
theorem d_Pattern_putInto_30 : decode (rm_code mPattern_putInto) 30 = .ok (.iinc 3 (1), 3) := by decide +kernel
theorem d_Pattern_putInto_33 : decode (rm_code mPattern_putInto) 33 = .ok (.goto (-31), 3) := by decide +kernel
theorem d_Pattern_putInto_36 : decode (rm_code mPattern_putInto) 36 = .ok (.return_, 1) := by decide +kernel
theorem p_Pattern_putInto_0 {S : rz_S} {K : rz_S → Prop} {a0 : Nat} (ha0 : ptP a0) {a1 na1 : Nat} (ha1 : rz_T[a1]? = some (.inl (0, na1))) {a2 : Int32} (w : rz mPattern_putInto 2 [(0, .ref a0), (1, .ref a1), (2, .int a2), (3, .int 0)] [] S (rz_v K)) : rz mPattern_putInto 0 [(0, .ref a0), (1, .ref a1), (2, .int a2)] [] S (rz_v K) := by
  refine rz_iconst (v := 0) d_Pattern_putInto_0 (by decide) ?_
  refine rz_pure (pc' := 2) (l' := [(3, .int 0), (0, .ref a0), (1, .ref a1), (2, .int a2)]) d_Pattern_putInto_1 rfl ?_
  exact rz_pick (ks := [0, 1, 2, 3]) (l := [(0, .ref a0), (1, .ref a1), (2, .int a2), (3, .int 0)]) rfl rfl (by decide) rfl w
theorem p_Pattern_putInto_2 {S : rz_S} {K : rz_S → Prop} {a0 : Nat} (ha0 : ptP a0) {a1 na1 : Nat} (ha1 : rz_T[a1]? = some (.inl (0, na1))) {a2 : Int32} {a3 : Int32} (w : ((10 ≤ a3 → K S) ∧ (¬ 10 ≤ a3 → ((a2 < 0 → K S) ∧ (¬ a2 < 0 → ((Int32.ofNat na1 ≤ a2 + a3 → K S) ∧ (¬ Int32.ofNat na1 ≤ a2 + a3 → rz_ev mPattern_padded [.ref a0, .int a3] S (rz_i (fun xq4 Sq4 => rx_in (a2 + a3) na1 = true ∧ rz mPattern_putInto 2 [(0, .ref a0), (1, .ref a1), (2, .int a2), (3, .int (a3 + 1))] [] (rz_fA Sq4 a1 (upd (Sq4.1 a1) ((a2 + a3).toNatClampNeg) xq4)) (rz_v K)))))))))) : rz mPattern_putInto 2 [(0, .ref a0), (1, .ref a1), (2, .int a2), (3, .int a3)] [] S (rz_v K) := by
  refine rz_pure (pc' := 3) d_Pattern_putInto_2 rfl ?_
  refine rz_bipush (v := 10) d_Pattern_putInto_3 (by decide) ?_
  refine rz_icmpge (tgt := 36) d_Pattern_putInto_5 rfl (fun b1 => ?_) (fun b1 => ?_)
  · skip
    exact rz_vretv d_Pattern_putInto_36 rfl (w.1 b1)
  · skip
    refine rz_pure (pc' := 9) d_Pattern_putInto_8 rfl ?_
    refine rz_iflt (tgt := 36) d_Pattern_putInto_9 rfl (fun b2 => ?_) (fun b2 => ?_)
    · skip
      exact rz_vretv d_Pattern_putInto_36 rfl ((w.2 b1).1 b2)
    · skip
      refine rz_pure (pc' := 13) d_Pattern_putInto_12 rfl ?_
      refine rz_pure (pc' := 14) d_Pattern_putInto_13 rfl ?_
      refine rz_iadd d_Pattern_putInto_14 ?_
      refine rz_pure (pc' := 16) d_Pattern_putInto_15 rfl ?_
      refine rz_alenv (v := Int32.ofNat na1) d_Pattern_putInto_16 (ha1) (by decide) rfl ?_
      refine rz_icmpge (tgt := 36) d_Pattern_putInto_17 rfl (fun b3 => ?_) (fun b3 => ?_)
      · skip
        exact rz_vretv d_Pattern_putInto_36 rfl (((w.2 b1).2 b2).1 b3)
      · skip
        refine rz_pure (pc' := 21) d_Pattern_putInto_20 rfl ?_
        refine rz_pure (pc' := 22) d_Pattern_putInto_21 rfl ?_
        refine rz_pure (pc' := 23) d_Pattern_putInto_22 rfl ?_
        refine rz_iadd d_Pattern_putInto_23 ?_
        refine rz_pure (pc' := 25) d_Pattern_putInto_24 rfl ?_
        refine rz_pure (pc' := 26) d_Pattern_putInto_25 rfl ?_
        refine rz_callVi (t := [.int a3]) d_Pattern_putInto_26 w_6_35 rfl (ptT ha0) rfl (((w.2 b1).2 b2).2 b3) (fun xq4 Sq4 q4 => ?_)
        refine rz_iastv (F := Sq4.1 a1) (i := (a2 + a3).toNatClampNeg) d_Pattern_putInto_29 (ha1) q4.1 rfl rfl ?_
        refine rz_pure (pc' := 33) (l' := [(3, .int (a3 + 1)), (0, .ref a0), (1, .ref a1), (2, .int a2)]) d_Pattern_putInto_30 rfl ?_
        refine rz_pure (pc' := 2) d_Pattern_putInto_33 rfl ?_
        exact rz_pick (ks := [0, 1, 2, 3]) (l := [(0, .ref a0), (1, .ref a1), (2, .int a2), (3, .int (a3 + 1))]) rfl rfl (by decide) rfl q4.2
theorem d_Pattern_padded_0 : decode (rm_code mPattern_padded) 0 = .ok (.iload_n 1, 1) := by decide +kernel
theorem d_Pattern_padded_1 : decode (rm_code mPattern_padded) 1 = .ok (.ifCond .lt (26), 3) := by decide +kernel
theorem d_Pattern_padded_4 : decode (rm_code mPattern_padded) 4 = .ok (.iload_n 1, 1) := by decide +kernel
theorem d_Pattern_padded_5 : decode (rm_code mPattern_padded) 5 = .ok (.aload_n 0, 1) := by decide +kernel
theorem d_Pattern_padded_6 : decode (rm_code mPattern_padded) 6 = .ok (.getfield 19, 3) := by decide +kernel
theorem d_Pattern_padded_9 : decode (rm_code mPattern_padded) 9 = .ok (.if_icmp .ge (18), 3) := by decide +kernel
theorem d_Pattern_padded_12 : decode (rm_code mPattern_padded) 12 = .ok (.iload_n 1, 1) := by decide +kernel
theorem d_Pattern_padded_13 : decode (rm_code mPattern_padded) 13 = .ok (.bipush (10), 2) := by decide +kernel
theorem d_Pattern_padded_15 : decode (rm_code mPattern_padded) 15 = .ok (.if_icmp .ge (12), 3) := by decide +kernel
theorem d_Pattern_padded_18 : decode (rm_code mPattern_padded) 18 = .ok (.aload_n 0, 1) := by decide +kernel
theorem d_Pattern_padded_19 : decode (rm_code mPattern_padded) 19 = .ok (.getfield 9, 3) := by decide +kernel
theorem d_Pattern_padded_22 : decode (rm_code mPattern_padded) 22 = .ok (.iload_n 1, 1) := by decide +kernel
theorem d_Pattern_padded_23 : decode (rm_code mPattern_padded) 23 = .ok (.iaload, 1) := by decide +kernel
theorem d_Pattern_padded_24 : decode (rm_code mPattern_padded) 24 = .ok (.goto (6), 3) := by decide +kernel
theorem d_Pattern_padded_27 : decode (rm_code mPattern_padded) 27 = .ok (.sipush (160), 3) := by decide +kernel
theorem d_Pattern_padded_30 : decode (rm_code mPattern_padded) 30 = .ok (.ireturn, 1) := by decide +kernel
theorem p_Pattern_padded_0 {S : rz_S} {K : Int32 → rz_S → Prop} {a0 : Nat} (ha0 : ptP a0) {a1 : Int32} (w : ((a1 < 0 → K 160 S) ∧ (¬ a1 < 0 → ((S.2 a0 1 ≤ a1 → K 160 S) ∧ (¬ S.2 a0 1 ≤ a1 → ((10 ≤ a1 → K 160 S) ∧ (¬ 10 ≤ a1 → rx_in a1 10 = true ∧ K (S.1 (a0 + 1) a1.toNatClampNeg) S))))))) : rz mPattern_padded 0 [(0, .ref a0), (1, .int a1)] [] S (rz_i K) := by
  refine rz_pure (pc' := 1) d_Pattern_padded_0 rfl ?_
  refine rz_iflt (tgt := 27) d_Pattern_padded_1 rfl (fun b1 => ?_) (fun b1 => ?_)
  · skip
    refine rz_sipush (v := 160) d_Pattern_padded_27 (by decide) ?_
    exact rz_ireti d_Pattern_padded_30 rfl rfl (w.1 b1)
  · skip
    refine rz_pure (pc' := 5) d_Pattern_padded_4 rfl ?_
    refine rz_pure (pc' := 6) d_Pattern_padded_5 rfl ?_
    refine rz_getiv (v := S.2 a0 1) d_Pattern_padded_6 f_6_19 (ptT ha0) rfl rfl ?_
    refine rz_icmpge (tgt := 27) d_Pattern_padded_9 rfl (fun b2 => ?_) (fun b2 => ?_)
    · skip
      refine rz_sipush (v := 160) d_Pattern_padded_27 (by decide) ?_
      exact rz_ireti d_Pattern_padded_30 rfl rfl ((w.2 b1).1 b2)
    · skip
      refine rz_pure (pc' := 13) d_Pattern_padded_12 rfl ?_
      refine rz_bipush (v := 10) d_Pattern_padded_13 (by decide) ?_
      refine rz_icmpge (tgt := 27) d_Pattern_padded_15 rfl (fun b3 => ?_) (fun b3 => ?_)
      · skip
        refine rz_sipush (v := 160) d_Pattern_padded_27 (by decide) ?_
        exact rz_ireti d_Pattern_padded_30 rfl rfl (((w.2 b1).2 b2).1 b3)
      · skip
        refine rz_pure (pc' := 19) d_Pattern_padded_18 rfl ?_
        refine rz_getr d_Pattern_padded_19 f_6_9 (ptT ha0) rfl ?_
        refine rz_pure (pc' := 23) d_Pattern_padded_22 rfl ?_
        refine rz_ialdv (F := S.1 (a0 + 1)) (i := a1.toNatClampNeg) d_Pattern_padded_23 (ptR ha0) (((w.2 b1).2 b2).2 b3).1 rfl rfl ?_
        refine rz_pure (pc' := 30) d_Pattern_padded_24 rfl ?_
        exact rz_ireti d_Pattern_padded_30 rfl rfl (((w.2 b1).2 b2).2 b3).2
theorem d_BlockMap_store_0 : decode (rm_code mBlockMap_store) 0 = .ok (.aload_n 0, 1) := by decide +kernel
theorem d_BlockMap_store_1 : decode (rm_code mBlockMap_store) 1 = .ok (.getfield 15, 3) := by decide +kernel
theorem d_BlockMap_store_4 : decode (rm_code mBlockMap_store) 4 = .ok (.bipush (7), 2) := by decide +kernel
theorem d_BlockMap_store_6 : decode (rm_code mBlockMap_store) 6 = .ok (.iconst 0, 1) := by decide +kernel
theorem d_BlockMap_store_7 : decode (rm_code mBlockMap_store) 7 = .ok (.aload_n 0, 1) := by decide +kernel
theorem d_BlockMap_store_8 : decode (rm_code mBlockMap_store) 8 = .ok (.getfield 9, 3) := by decide +kernel
theorem d_BlockMap_store_11 : decode (rm_code mBlockMap_store) 11 = .ok (.invokevirtual 23, 3) := by decide +kernel
theorem d_BlockMap_store_14 : decode (rm_code mBlockMap_store) 14 = .ok (.ireturn, 1) := by decide +kernel
theorem p_BlockMap_store_0 {S : rz_S} {K : Int32 → rz_S → Prop} (w : rz_ev mDisk_writeBlock [.ref 6, .int 7, .int 0, .ref 45] S (rz_i (fun xq1 Sq1 => K xq1 Sq1))) : rz mBlockMap_store 0 [(0, .ref 44)] [] S (rz_i K) := by
  refine rz_pure (pc' := 1) d_BlockMap_store_0 rfl ?_
  refine rz_getr d_BlockMap_store_1 f_0_15 rfl rfl ?_
  refine rz_bipush (v := 7) d_BlockMap_store_4 (by decide) ?_
  refine rz_iconst (v := 0) d_BlockMap_store_6 (by decide) ?_
  refine rz_pure (pc' := 8) d_BlockMap_store_7 rfl ?_
  refine rz_getr d_BlockMap_store_8 f_0_9 rfl rfl ?_
  refine rz_callVi (t := [.ref 45, .int 0, .int 7]) d_BlockMap_store_11 w_0_23 rfl rfl rfl w (fun xq1 Sq1 q1 => ?_)
  exact rz_ireti d_BlockMap_store_14 rfl rfl q1
theorem d_Pattern_isSame_0 : decode (rm_code mPattern_isSame) 0 = .ok (.iload_n 2, 1) := by decide +kernel
theorem d_Pattern_isSame_1 : decode (rm_code mPattern_isSame) 1 = .ok (.ifCond .lt (12), 3) := by decide +kernel
theorem d_Pattern_isSame_4 : decode (rm_code mPattern_isSame) 4 = .ok (.iload_n 2, 1) := by decide +kernel
theorem d_Pattern_isSame_5 : decode (rm_code mPattern_isSame) 5 = .ok (.aload_n 1, 1) := by decide +kernel
theorem d_Pattern_isSame_6 : decode (rm_code mPattern_isSame) 6 = .ok (.arraylength, 1) := by decide +kernel
theorem d_Pattern_isSame_7 : decode (rm_code mPattern_isSame) 7 = .ok (.bipush (10), 2) := by decide +kernel
theorem d_Pattern_isSame_9 : decode (rm_code mPattern_isSame) 9 = .ok (.isub, 1) := by decide +kernel
theorem d_Pattern_isSame_10 : decode (rm_code mPattern_isSame) 10 = .ok (.if_icmp .le (5), 3) := by decide +kernel
theorem d_Pattern_isSame_13 : decode (rm_code mPattern_isSame) 13 = .ok (.iconst 0, 1) := by decide +kernel
theorem d_Pattern_isSame_14 : decode (rm_code mPattern_isSame) 14 = .ok (.ireturn, 1) := by decide +kernel
theorem d_Pattern_isSame_15 : decode (rm_code mPattern_isSame) 15 = .ok (.iconst 0, 1) := by decide +kernel
theorem d_Pattern_isSame_16 : decode (rm_code mPattern_isSame) 16 = .ok (.istore_n 3, 1) := by decide +kernel
theorem d_Pattern_isSame_17 : decode (rm_code mPattern_isSame) 17 = .ok (.iload_n 3, 1) := by decide +kernel
theorem d_Pattern_isSame_18 : decode (rm_code mPattern_isSame) 18 = .ok (.bipush (10), 2) := by decide +kernel
theorem d_Pattern_isSame_20 : decode (rm_code mPattern_isSame) 20 = .ok (.if_icmp .ge (24), 3) := by decide +kernel
theorem d_Pattern_isSame_23 : decode (rm_code mPattern_isSame) 23 = .ok (.aload_n 1, 1) := by decide +kernel
theorem d_Pattern_isSame_24 : decode (rm_code mPattern_isSame) 24 = .ok (.iload_n 2, 1) := by decide +kernel
theorem d_Pattern_isSame_25 : decode (rm_code mPattern_isSame) 25 = .ok (.iload_n 3, 1) := by decide +kernel
theorem d_Pattern_isSame_26 : decode (rm_code mPattern_isSame) 26 = .ok (.iadd, 1) := by decide +kernel
theorem d_Pattern_isSame_27 : decode (rm_code mPattern_isSame) 27 = .ok (.iaload, 1) := by decide +kernel
theorem d_Pattern_isSame_28 : decode (rm_code mPattern_isSame) 28 = .ok (.aload_n 0, 1) := by decide +kernel
theorem d_Pattern_isSame_29 : decode (rm_code mPattern_isSame) 29 = .ok (.iload_n 3, 1) := by decide +kernel
theorem d_Pattern_isSame_30 : decode (rm_code mPattern_isSame) 30 = .ok (.invokevirtual 35, 3) := by decide +kernel
theorem d_Pattern_isSame_33 : decode (rm_code mPattern_isSame) 33 = .ok (.if_icmp .eq (5), 3) := by decide +kernel
theorem d_Pattern_isSame_36 : decode (rm_code mPattern_isSame) 36 = .ok (.iconst 0, 1) := by decide +kernel
theorem d_Pattern_isSame_37 : decode (rm_code mPattern_isSame) 37 = .ok (.ireturn, 1) := by decide +kernel
theorem d_Pattern_isSame_38 : decode (rm_code mPattern_isSame) 38 = .ok (.iinc 3 (1), 3) := by decide +kernel
theorem d_Pattern_isSame_41 : decode (rm_code mPattern_isSame) 41 = .ok (.goto (-24), 3) := by decide +kernel
theorem d_Pattern_isSame_44 : decode (rm_code mPattern_isSame) 44 = .ok (.iconst 1, 1) := by decide +kernel
theorem d_Pattern_isSame_45 : decode (rm_code mPattern_isSame) 45 = .ok (.ireturn, 1) := by decide +kernel
theorem p_Pattern_isSame_0 {S : rz_S} {K : Int32 → rz_S → Prop} {a0 : Nat} (ha0 : ptP a0) {a1 na1 : Nat} (ha1 : rz_T[a1]? = some (.inl (0, na1))) {a2 : Int32} (w : ((a2 < 0 → K 0 S) ∧ (¬ a2 < 0 → ((a2 ≤ (Int32.ofNat na1) - 10 → rz mPattern_isSame 17 [(0, .ref a0), (1, .ref a1), (2, .int a2), (3, .int 0)] [] S (rz_i K)) ∧ (¬ a2 ≤ (Int32.ofNat na1) - 10 → K 0 S))))) : rz mPattern_isSame 0 [(0, .ref a0), (1, .ref a1), (2, .int a2)] [] S (rz_i K) := by
  refine rz_pure (pc' := 1) d_Pattern_isSame_0 rfl ?_
  refine rz_iflt (tgt := 13) d_Pattern_isSame_1 rfl (fun b1 => ?_) (fun b1 => ?_)
  · skip
    refine rz_iconst (v := 0) d_Pattern_isSame_13 (by decide) ?_
    exact rz_ireti d_Pattern_isSame_14 rfl (by decide) (w.1 b1)
  · skip
    refine rz_pure (pc' := 5) d_Pattern_isSame_4 rfl ?_
    refine rz_pure (pc' := 6) d_Pattern_isSame_5 rfl ?_
    refine rz_alenv (v := Int32.ofNat na1) d_Pattern_isSame_6 (ha1) (by decide) rfl ?_
    refine rz_bipush (v := 10) d_Pattern_isSame_7 (by decide) ?_
    refine rz_isub d_Pattern_isSame_9 ?_
    refine rz_icmple (tgt := 15) d_Pattern_isSame_10 rfl (fun b2 => ?_) (fun b2 => ?_)
    · skip
      refine rz_iconst (v := 0) d_Pattern_isSame_15 (by decide) ?_
      refine rz_pure (pc' := 17) (l' := [(3, .int 0), (0, .ref a0), (1, .ref a1), (2, .int a2)]) d_Pattern_isSame_16 rfl ?_
      exact rz_pick (ks := [0, 1, 2, 3]) (l := [(0, .ref a0), (1, .ref a1), (2, .int a2), (3, .int 0)]) rfl rfl (by decide) rfl ((w.2 b1).1 b2)
    · skip
      refine rz_iconst (v := 0) d_Pattern_isSame_13 (by decide) ?_
      exact rz_ireti d_Pattern_isSame_14 rfl (by decide) ((w.2 b1).2 b2)
theorem p_Pattern_isSame_17 {S : rz_S} {K : Int32 → rz_S → Prop} {a0 : Nat} (ha0 : ptP a0) {a1 na1 : Nat} (ha1 : rz_T[a1]? = some (.inl (0, na1))) {a2 : Int32} {a3 : Int32} (w : ((10 ≤ a3 → K 1 S) ∧ (¬ 10 ≤ a3 → rx_in (a2 + a3) na1 = true ∧ rz_ev mPattern_padded [.ref a0, .int a3] S (rz_i (fun xq2 Sq2 => ((S.1 a1 ((a2 + a3).toNatClampNeg) = xq2 → rz mPattern_isSame 17 [(0, .ref a0), (1, .ref a1), (2, .int a2), (3, .int (a3 + 1))] [] Sq2 (rz_i K)) ∧ (¬ S.1 a1 ((a2 + a3).toNatClampNeg) = xq2 → K 0 Sq2))))))) : rz mPattern_isSame 17 [(0, .ref a0), (1, .ref a1), (2, .int a2), (3, .int a3)] [] S (rz_i K) := by
  refine rz_pure (pc' := 18) d_Pattern_isSame_17 rfl ?_
  refine rz_bipush (v := 10) d_Pattern_isSame_18 (by decide) ?_
  refine rz_icmpge (tgt := 44) d_Pattern_isSame_20 rfl (fun b1 => ?_) (fun b1 => ?_)
  · skip
    refine rz_iconst (v := 1) d_Pattern_isSame_44 (by decide) ?_
    exact rz_ireti d_Pattern_isSame_45 rfl (by decide) (w.1 b1)
  · skip
    refine rz_pure (pc' := 24) d_Pattern_isSame_23 rfl ?_
    refine rz_pure (pc' := 25) d_Pattern_isSame_24 rfl ?_
    refine rz_pure (pc' := 26) d_Pattern_isSame_25 rfl ?_
    refine rz_iadd d_Pattern_isSame_26 ?_
    refine rz_ialdv (F := S.1 a1) (i := (a2 + a3).toNatClampNeg) d_Pattern_isSame_27 (ha1) (w.2 b1).1 rfl rfl ?_
    refine rz_pure (pc' := 29) d_Pattern_isSame_28 rfl ?_
    refine rz_pure (pc' := 30) d_Pattern_isSame_29 rfl ?_
    refine rz_callVi (t := [.int a3]) d_Pattern_isSame_30 w_6_35 rfl (ptT ha0) rfl (w.2 b1).2 (fun xq2 Sq2 q2 => ?_)
    refine rz_icmpeq (tgt := 38) d_Pattern_isSame_33 rfl (fun b3 => ?_) (fun b3 => ?_)
    · skip
      refine rz_pure (pc' := 41) (l' := [(3, .int (a3 + 1)), (0, .ref a0), (1, .ref a1), (2, .int a2)]) d_Pattern_isSame_38 rfl ?_
      refine rz_pure (pc' := 17) d_Pattern_isSame_41 rfl ?_
      exact rz_pick (ks := [0, 1, 2, 3]) (l := [(0, .ref a0), (1, .ref a1), (2, .int a2), (3, .int (a3 + 1))]) rfl rfl (by decide) rfl (q2.1 b3)
    · skip
      refine rz_iconst (v := 0) d_Pattern_isSame_36 (by decide) ?_
      exact rz_ireti d_Pattern_isSame_37 rfl (by decide) (q2.2 b3)
theorem d_Pattern_fits_0 : decode (rm_code mPattern_fits) 0 = .ok (.iload_n 2, 1) := by decide +kernel
theorem d_Pattern_fits_1 : decode (rm_code mPattern_fits) 1 = .ok (.ifCond .lt (12), 3) := by decide +kernel
theorem d_Pattern_fits_4 : decode (rm_code mPattern_fits) 4 = .ok (.iload_n 2, 1) := by decide +kernel
theorem d_Pattern_fits_5 : decode (rm_code mPattern_fits) 5 = .ok (.aload_n 1, 1) := by decide +kernel
theorem d_Pattern_fits_6 : decode (rm_code mPattern_fits) 6 = .ok (.arraylength, 1) := by decide +kernel
theorem d_Pattern_fits_7 : decode (rm_code mPattern_fits) 7 = .ok (.bipush (10), 2) := by decide +kernel
theorem d_Pattern_fits_9 : decode (rm_code mPattern_fits) 9 = .ok (.isub, 1) := by decide +kernel
theorem d_Pattern_fits_10 : decode (rm_code mPattern_fits) 10 = .ok (.if_icmp .le (5), 3) := by decide +kernel
theorem d_Pattern_fits_13 : decode (rm_code mPattern_fits) 13 = .ok (.iconst 0, 1) := by decide +kernel
theorem d_Pattern_fits_14 : decode (rm_code mPattern_fits) 14 = .ok (.ireturn, 1) := by decide +kernel
theorem d_Pattern_fits_15 : decode (rm_code mPattern_fits) 15 = .ok (.iconst 0, 1) := by decide +kernel
theorem d_Pattern_fits_16 : decode (rm_code mPattern_fits) 16 = .ok (.istore_n 3, 1) := by decide +kernel
theorem d_Pattern_fits_17 : decode (rm_code mPattern_fits) 17 = .ok (.iload_n 3, 1) := by decide +kernel
theorem d_Pattern_fits_18 : decode (rm_code mPattern_fits) 18 = .ok (.aload_n 0, 1) := by decide +kernel
theorem d_Pattern_fits_19 : decode (rm_code mPattern_fits) 19 = .ok (.getfield 19, 3) := by decide +kernel
theorem d_Pattern_fits_22 : decode (rm_code mPattern_fits) 22 = .ok (.if_icmp .ge (70), 3) := by decide +kernel
theorem d_Pattern_fits_25 : decode (rm_code mPattern_fits) 25 = .ok (.iload_n 3, 1) := by decide +kernel
theorem d_Pattern_fits_26 : decode (rm_code mPattern_fits) 26 = .ok (.bipush (10), 2) := by decide +kernel
theorem d_Pattern_fits_28 : decode (rm_code mPattern_fits) 28 = .ok (.if_icmp .ge (64), 3) := by decide +kernel
theorem d_Pattern_fits_31 : decode (rm_code mPattern_fits) 31 = .ok (.aload_n 1, 1) := by decide +kernel
theorem d_Pattern_fits_32 : decode (rm_code mPattern_fits) 32 = .ok (.iload_n 2, 1) := by decide +kernel
theorem d_Pattern_fits_33 : decode (rm_code mPattern_fits) 33 = .ok (.iload_n 3, 1) := by decide +kernel
theorem d_Pattern_fits_34 : decode (rm_code mPattern_fits) 34 = .ok (.iadd, 1) := by decide +kernel
theorem d_Pattern_fits_35 : decode (rm_code mPattern_fits) 35 = .ok (.iaload, 1) := by decide +kernel
theorem d_Pattern_fits_36 : decode (rm_code mPattern_fits) 36 = .ok (.istore 4, 2) := by decide +kernel
theorem d_Pattern_fits_38 : decode (rm_code mPattern_fits) 38 = .ok (.aload_n 0, 1) := by decide +kernel
theorem d_Pattern_fits_39 : decode (rm_code mPattern_fits) 39 = .ok (.getfield 9, 3) := by decide +kernel
theorem d_Pattern_fits_42 : decode (rm_code mPattern_fits) 42 = .ok (.iload_n 3, 1) := by decide +kernel
theorem d_Pattern_fits_43 : decode (rm_code mPattern_fits) 43 = .ok (.iaload, 1) := by decide +kernel
theorem d_Pattern_fits_44 : decode (rm_code mPattern_fits) 44 = .ok (.bipush (42), 2) := by decide +kernel
theorem d_Pattern_fits_46 : decode (rm_code mPattern_fits) 46 = .ok (.if_icmp .ne (5), 3) := by decide +kernel
theorem d_Pattern_fits_49 : decode (rm_code mPattern_fits) 49 = .ok (.iconst 1, 1) := by decide +kernel
theorem d_Pattern_fits_50 : decode (rm_code mPattern_fits) 50 = .ok (.ireturn, 1) := by decide +kernel
theorem d_Pattern_fits_51 : decode (rm_code mPattern_fits) 51 = .ok (.aload_n 0, 1) := by decide +kernel
theorem d_Pattern_fits_52 : decode (rm_code mPattern_fits) 52 = .ok (.getfield 9, 3) := by decide +kernel
theorem d_Pattern_fits_55 : decode (rm_code mPattern_fits) 55 = .ok (.iload_n 3, 1) := by decide +kernel
theorem d_Pattern_fits_56 : decode (rm_code mPattern_fits) 56 = .ok (.iaload, 1) := by decide +kernel
theorem d_Pattern_fits_57 : decode (rm_code mPattern_fits) 57 = .ok (.bipush (63), 2) := by decide +kernel
theorem d_Pattern_fits_59 : decode (rm_code mPattern_fits) 59 = .ok (.if_icmp .ne (14), 3) := by decide +kernel
theorem d_Pattern_fits_62 : decode (rm_code mPattern_fits) 62 = .ok (.iload 4, 2) := by decide +kernel
theorem d_Pattern_fits_64 : decode (rm_code mPattern_fits) 64 = .ok (.sipush (160), 3) := by decide +kernel
theorem d_Pattern_fits_67 : decode (rm_code mPattern_fits) 67 = .ok (.if_icmp .ne (19), 3) := by decide +kernel
theorem d_Pattern_fits_70 : decode (rm_code mPattern_fits) 70 = .ok (.goto (14), 3) := by decide +kernel
theorem d_Pattern_fits_73 : decode (rm_code mPattern_fits) 73 = .ok (.iload 4, 2) := by decide +kernel
theorem d_Pattern_fits_75 : decode (rm_code mPattern_fits) 75 = .ok (.aload_n 0, 1) := by decide +kernel
theorem d_Pattern_fits_76 : decode (rm_code mPattern_fits) 76 = .ok (.getfield 9, 3) := by decide +kernel
theorem d_Pattern_fits_79 : decode (rm_code mPattern_fits) 79 = .ok (.iload_n 3, 1) := by decide +kernel
theorem d_Pattern_fits_80 : decode (rm_code mPattern_fits) 80 = .ok (.iaload, 1) := by decide +kernel
theorem d_Pattern_fits_81 : decode (rm_code mPattern_fits) 81 = .ok (.if_icmp .eq (5), 3) := by decide +kernel
theorem d_Pattern_fits_84 : decode (rm_code mPattern_fits) 84 = .ok (.iconst 0, 1) := by decide +kernel
theorem d_Pattern_fits_85 : decode (rm_code mPattern_fits) 85 = .ok (.ireturn, 1) := by decide +kernel
theorem d_Pattern_fits_86 : decode (rm_code mPattern_fits) 86 = .ok (.iinc 3 (1), 3) := by decide +kernel
theorem d_Pattern_fits_89 : decode (rm_code mPattern_fits) 89 = .ok (.goto (-72), 3) := by decide +kernel
theorem d_Pattern_fits_92 : decode (rm_code mPattern_fits) 92 = .ok (.aload_n 0, 1) := by decide +kernel
theorem d_Pattern_fits_93 : decode (rm_code mPattern_fits) 93 = .ok (.getfield 19, 3) := by decide +kernel
theorem d_Pattern_fits_96 : decode (rm_code mPattern_fits) 96 = .ok (.bipush (10), 2) := by decide +kernel
theorem d_Pattern_fits_98 : decode (rm_code mPattern_fits) 98 = .ok (.if_icmp .ge (17), 3) := by decide +kernel
theorem d_Pattern_fits_101 : decode (rm_code mPattern_fits) 101 = .ok (.aload_n 1, 1) := by decide +kernel
theorem d_Pattern_fits_102 : decode (rm_code mPattern_fits) 102 = .ok (.iload_n 2, 1) := by decide +kernel
theorem d_Pattern_fits_103 : decode (rm_code mPattern_fits) 103 = .ok (.aload_n 0, 1) := by decide +kernel
theorem d_Pattern_fits_104 : decode (rm_code mPattern_fits) 104 = .ok (.getfield 19, 3) := by decide +kernel
theorem d_Pattern_fits_107 : decode (rm_code mPattern_fits) 107 = .ok (.iadd, 1) := by decide +kernel
theorem d_Pattern_fits_108 : decode (rm_code mPattern_fits) 108 = .ok (.iaload, 1) := by decide +kernel
theorem d_Pattern_fits_109 : decode (rm_code mPattern_fits) 109 = .ok (.sipush (160), 3) := by decide +kernel
theorem d_Pattern_fits_112 : decode (rm_code mPattern_fits) 112 = .ok (.if_icmp .ne (7), 3) := by decide +kernel
theorem d_Pattern_fits_115 : decode (rm_code mPattern_fits) 115 = .ok (.iconst 1, 1) := by decide +kernel
theorem d_Pattern_fits_116 : decode (rm_code mPattern_fits) 116 = .ok (.goto (4), 3) := by decide +kernel
theorem d_Pattern_fits_119 : decode (rm_code mPattern_fits) 119 = .ok (.iconst 0, 1) := by decide +kernel
theorem d_Pattern_fits_120 : decode (rm_code mPattern_fits) 120 = .ok (.ireturn, 1) := by decide +kernel
theorem p_Pattern_fits_0 {S : rz_S} {K : Int32 → rz_S → Prop} {a0 : Nat} (ha0 : ptP a0) {a1 na1 : Nat} (ha1 : rz_T[a1]? = some (.inl (0, na1))) {a2 : Int32} (w : ((a2 < 0 → K 0 S) ∧ (¬ a2 < 0 → ((a2 ≤ (Int32.ofNat na1) - 10 → rz mPattern_fits 17 [(0, .ref a0), (1, .ref a1), (2, .int a2), (3, .int 0)] [] S (rz_i K)) ∧ (¬ a2 ≤ (Int32.ofNat na1) - 10 → K 0 S))))) : rz mPattern_fits 0 [(0, .ref a0), (1, .ref a1), (2, .int a2)] [] S (rz_i K) := by
  refine rz_pure (pc' := 1) d_Pattern_fits_0 rfl ?_
  refine rz_iflt (tgt := 13) d_Pattern_fits_1 rfl (fun b1 => ?_) (fun b1 => ?_)
  · skip
    refine rz_iconst (v := 0) d_Pattern_fits_13 (by decide) ?_
    exact rz_ireti d_Pattern_fits_14 rfl (by decide) (w.1 b1)
  · skip
    refine rz_pure (pc' := 5) d_Pattern_fits_4 rfl ?_
    refine rz_pure (pc' := 6) d_Pattern_fits_5 rfl ?_
    refine rz_alenv (v := Int32.ofNat na1) d_Pattern_fits_6 (ha1) (by decide) rfl ?_
    refine rz_bipush (v := 10) d_Pattern_fits_7 (by decide) ?_
    refine rz_isub d_Pattern_fits_9 ?_
    refine rz_icmple (tgt := 15) d_Pattern_fits_10 rfl (fun b2 => ?_) (fun b2 => ?_)
    · skip
      refine rz_iconst (v := 0) d_Pattern_fits_15 (by decide) ?_
      refine rz_pure (pc' := 17) (l' := [(3, .int 0), (0, .ref a0), (1, .ref a1), (2, .int a2)]) d_Pattern_fits_16 rfl ?_
      exact rz_pick (ks := [0, 1, 2, 3]) (l := [(0, .ref a0), (1, .ref a1), (2, .int a2), (3, .int 0)]) rfl rfl (by decide) rfl ((w.2 b1).1 b2)
    · skip
      refine rz_iconst (v := 0) d_Pattern_fits_13 (by decide) ?_
      exact rz_ireti d_Pattern_fits_14 rfl (by decide) ((w.2 b1).2 b2)
theorem p_Pattern_fits_17 {S : rz_S} {K : Int32 → rz_S → Prop} {a0 : Nat} (ha0 : ptP a0) {a1 na1 : Nat} (ha1 : rz_T[a1]? = some (.inl (0, na1))) {a2 : Int32} {a3 : Int32} (w : ((S.2 a0 1 ≤ a3 → rz mPattern_fits 92 [(0, .ref a0), (1, .ref a1), (2, .int a2)] [] S (rz_i K)) ∧ (¬ S.2 a0 1 ≤ a3 → ((10 ≤ a3 → rz mPattern_fits 92 [(0, .ref a0), (1, .ref a1), (2, .int a2)] [] S (rz_i K)) ∧ (¬ 10 ≤ a3 → rx_in (a2 + a3) na1 = true ∧ rx_in a3 10 = true ∧ ((S.1 (a0 + 1) a3.toNatClampNeg = 42 → K 1 S) ∧ (¬ S.1 (a0 + 1) a3.toNatClampNeg = 42 → ((S.1 (a0 + 1) a3.toNatClampNeg = 63 → ((S.1 a1 ((a2 + a3).toNatClampNeg) = 160 → K 0 S) ∧ (¬ S.1 a1 ((a2 + a3).toNatClampNeg) = 160 → rz mPattern_fits 17 [(0, .ref a0), (1, .ref a1), (2, .int a2), (3, .int (a3 + 1))] [] S (rz_i K)))) ∧ (¬ S.1 (a0 + 1) a3.toNatClampNeg = 63 → ((S.1 a1 ((a2 + a3).toNatClampNeg) = S.1 (a0 + 1) a3.toNatClampNeg → rz mPattern_fits 17 [(0, .ref a0), (1, .ref a1), (2, .int a2), (3, .int (a3 + 1))] [] S (rz_i K)) ∧ (¬ S.1 a1 ((a2 + a3).toNatClampNeg) = S.1 (a0 + 1) a3.toNatClampNeg → K 0 S))))))))))) : rz mPattern_fits 17 [(0, .ref a0), (1, .ref a1), (2, .int a2), (3, .int a3)] [] S (rz_i K) := by
  refine rz_pure (pc' := 18) d_Pattern_fits_17 rfl ?_
  refine rz_pure (pc' := 19) d_Pattern_fits_18 rfl ?_
  refine rz_getiv (v := S.2 a0 1) d_Pattern_fits_19 f_6_19 (ptT ha0) rfl rfl ?_
  refine rz_icmpge (tgt := 92) d_Pattern_fits_22 rfl (fun b1 => ?_) (fun b1 => ?_)
  · skip
    exact rz_pick (ks := [0, 1, 2]) (l := [(0, .ref a0), (1, .ref a1), (2, .int a2)]) rfl rfl (by decide) rfl (w.1 b1)
  · skip
    refine rz_pure (pc' := 26) d_Pattern_fits_25 rfl ?_
    refine rz_bipush (v := 10) d_Pattern_fits_26 (by decide) ?_
    refine rz_icmpge (tgt := 92) d_Pattern_fits_28 rfl (fun b2 => ?_) (fun b2 => ?_)
    · skip
      exact rz_pick (ks := [0, 1, 2]) (l := [(0, .ref a0), (1, .ref a1), (2, .int a2)]) rfl rfl (by decide) rfl ((w.2 b1).1 b2)
    · skip
      refine rz_pure (pc' := 32) d_Pattern_fits_31 rfl ?_
      refine rz_pure (pc' := 33) d_Pattern_fits_32 rfl ?_
      refine rz_pure (pc' := 34) d_Pattern_fits_33 rfl ?_
      refine rz_iadd d_Pattern_fits_34 ?_
      refine rz_ialdv (F := S.1 a1) (i := (a2 + a3).toNatClampNeg) d_Pattern_fits_35 (ha1) ((w.2 b1).2 b2).1 rfl rfl ?_
      refine rz_pure (pc' := 38) (l' := [(4, .int (S.1 a1 ((a2 + a3).toNatClampNeg))), (0, .ref a0), (1, .ref a1), (2, .int a2), (3, .int a3)]) d_Pattern_fits_36 rfl ?_
      refine rz_pure (pc' := 39) d_Pattern_fits_38 rfl ?_
      refine rz_getr d_Pattern_fits_39 f_6_9 (ptT ha0) rfl ?_
      refine rz_pure (pc' := 43) d_Pattern_fits_42 rfl ?_
      refine rz_ialdv (F := S.1 (a0 + 1)) (i := a3.toNatClampNeg) d_Pattern_fits_43 (ptR ha0) ((w.2 b1).2 b2).2.1 rfl rfl ?_
      refine rz_bipush (v := 42) d_Pattern_fits_44 (by decide) ?_
      refine rz_icmpne (tgt := 51) d_Pattern_fits_46 rfl (fun b3 => ?_) (fun b3 => ?_)
      · skip
        refine rz_pure (pc' := 52) d_Pattern_fits_51 rfl ?_
        refine rz_getr d_Pattern_fits_52 f_6_9 (ptT ha0) rfl ?_
        refine rz_pure (pc' := 56) d_Pattern_fits_55 rfl ?_
        refine rz_ialdv (F := S.1 (a0 + 1)) (i := a3.toNatClampNeg) d_Pattern_fits_56 (ptR ha0) ((w.2 b1).2 b2).2.1 rfl rfl ?_
        refine rz_bipush (v := 63) d_Pattern_fits_57 (by decide) ?_
        refine rz_icmpne (tgt := 73) d_Pattern_fits_59 rfl (fun b4 => ?_) (fun b4 => ?_)
        · skip
          refine rz_pure (pc' := 75) d_Pattern_fits_73 rfl ?_
          refine rz_pure (pc' := 76) d_Pattern_fits_75 rfl ?_
          refine rz_getr d_Pattern_fits_76 f_6_9 (ptT ha0) rfl ?_
          refine rz_pure (pc' := 80) d_Pattern_fits_79 rfl ?_
          refine rz_ialdv (F := S.1 (a0 + 1)) (i := a3.toNatClampNeg) d_Pattern_fits_80 (ptR ha0) ((w.2 b1).2 b2).2.1 rfl rfl ?_
          refine rz_icmpeq (tgt := 86) d_Pattern_fits_81 rfl (fun b5 => ?_) (fun b5 => ?_)
          · skip
            refine rz_pure (pc' := 89) (l' := [(3, .int (a3 + 1)), (4, .int (S.1 a1 ((a2 + a3).toNatClampNeg))), (0, .ref a0), (1, .ref a1), (2, .int a2)]) d_Pattern_fits_86 rfl ?_
            refine rz_pure (pc' := 17) d_Pattern_fits_89 rfl ?_
            exact rz_pick (ks := [0, 1, 2, 3]) (l := [(0, .ref a0), (1, .ref a1), (2, .int a2), (3, .int (a3 + 1))]) rfl rfl (by decide) rfl (((((w.2 b1).2 b2).2.2.2 b3).2 b4).1 b5)
          · skip
            refine rz_iconst (v := 0) d_Pattern_fits_84 (by decide) ?_
            exact rz_ireti d_Pattern_fits_85 rfl (by decide) (((((w.2 b1).2 b2).2.2.2 b3).2 b4).2 b5)
        · skip
          refine rz_pure (pc' := 64) d_Pattern_fits_62 rfl ?_
          refine rz_sipush (v := 160) d_Pattern_fits_64 (by decide) ?_
          refine rz_icmpne (tgt := 86) d_Pattern_fits_67 rfl (fun b6 => ?_) (fun b6 => ?_)
          · skip
            refine rz_pure (pc' := 89) (l' := [(3, .int (a3 + 1)), (4, .int (S.1 a1 ((a2 + a3).toNatClampNeg))), (0, .ref a0), (1, .ref a1), (2, .int a2)]) d_Pattern_fits_86 rfl ?_
            refine rz_pure (pc' := 17) d_Pattern_fits_89 rfl ?_
            exact rz_pick (ks := [0, 1, 2, 3]) (l := [(0, .ref a0), (1, .ref a1), (2, .int a2), (3, .int (a3 + 1))]) rfl rfl (by decide) rfl (((((w.2 b1).2 b2).2.2.2 b3).1 b4).2 b6)
          · skip
            refine rz_pure (pc' := 84) d_Pattern_fits_70 rfl ?_
            refine rz_iconst (v := 0) d_Pattern_fits_84 (by decide) ?_
            exact rz_ireti d_Pattern_fits_85 rfl (by decide) (((((w.2 b1).2 b2).2.2.2 b3).1 b4).1 b6)
      · skip
        refine rz_iconst (v := 1) d_Pattern_fits_49 (by decide) ?_
        exact rz_ireti d_Pattern_fits_50 rfl (by decide) (((w.2 b1).2 b2).2.2.1 b3)
theorem p_Pattern_fits_92 {S : rz_S} {K : Int32 → rz_S → Prop} {a0 : Nat} (ha0 : ptP a0) {a1 na1 : Nat} (ha1 : rz_T[a1]? = some (.inl (0, na1))) {a2 : Int32} (w : ((10 ≤ S.2 a0 1 → K 1 S) ∧ (¬ 10 ≤ S.2 a0 1 → rx_in (a2 + (S.2 a0 1)) na1 = true ∧ ((S.1 a1 ((a2 + (S.2 a0 1)).toNatClampNeg) = 160 → K 1 S) ∧ (¬ S.1 a1 ((a2 + (S.2 a0 1)).toNatClampNeg) = 160 → K 0 S))))) : rz mPattern_fits 92 [(0, .ref a0), (1, .ref a1), (2, .int a2)] [] S (rz_i K) := by
  refine rz_pure (pc' := 93) d_Pattern_fits_92 rfl ?_
  refine rz_getiv (v := S.2 a0 1) d_Pattern_fits_93 f_6_19 (ptT ha0) rfl rfl ?_
  refine rz_bipush (v := 10) d_Pattern_fits_96 (by decide) ?_
  refine rz_icmpge (tgt := 115) d_Pattern_fits_98 rfl (fun b1 => ?_) (fun b1 => ?_)
  · skip
    refine rz_iconst (v := 1) d_Pattern_fits_115 (by decide) ?_
    refine rz_pure (pc' := 120) d_Pattern_fits_116 rfl ?_
    exact rz_ireti d_Pattern_fits_120 rfl (by decide) (w.1 b1)
  · skip
    refine rz_pure (pc' := 102) d_Pattern_fits_101 rfl ?_
    refine rz_pure (pc' := 103) d_Pattern_fits_102 rfl ?_
    refine rz_pure (pc' := 104) d_Pattern_fits_103 rfl ?_
    refine rz_getiv (v := S.2 a0 1) d_Pattern_fits_104 f_6_19 (ptT ha0) rfl rfl ?_
    refine rz_iadd d_Pattern_fits_107 ?_
    refine rz_ialdv (F := S.1 a1) (i := (a2 + (S.2 a0 1)).toNatClampNeg) d_Pattern_fits_108 (ha1) (w.2 b1).1 rfl rfl ?_
    refine rz_sipush (v := 160) d_Pattern_fits_109 (by decide) ?_
    refine rz_icmpne (tgt := 119) d_Pattern_fits_112 rfl (fun b2 => ?_) (fun b2 => ?_)
    · skip
      refine rz_iconst (v := 0) d_Pattern_fits_119 (by decide) ?_
      exact rz_ireti d_Pattern_fits_120 rfl (by decide) ((w.2 b1).2.2 b2)
    · skip
      refine rz_iconst (v := 1) d_Pattern_fits_115 (by decide) ?_
      refine rz_pure (pc' := 120) d_Pattern_fits_116 rfl ?_
      exact rz_ireti d_Pattern_fits_120 rfl (by decide) ((w.2 b1).2.1 b2)
theorem d_BlockMap_load_0 : decode (rm_code mBlockMap_load) 0 = .ok (.aload_n 0, 1) := by decide +kernel
theorem d_BlockMap_load_1 : decode (rm_code mBlockMap_load) 1 = .ok (.getfield 15, 3) := by decide +kernel
theorem d_BlockMap_load_4 : decode (rm_code mBlockMap_load) 4 = .ok (.bipush (7), 2) := by decide +kernel
theorem d_BlockMap_load_6 : decode (rm_code mBlockMap_load) 6 = .ok (.iconst 0, 1) := by decide +kernel
theorem d_BlockMap_load_7 : decode (rm_code mBlockMap_load) 7 = .ok (.aload_n 0, 1) := by decide +kernel
theorem d_BlockMap_load_8 : decode (rm_code mBlockMap_load) 8 = .ok (.getfield 9, 3) := by decide +kernel
theorem d_BlockMap_load_11 : decode (rm_code mBlockMap_load) 11 = .ok (.invokevirtual 19, 3) := by decide +kernel
theorem d_BlockMap_load_14 : decode (rm_code mBlockMap_load) 14 = .ok (.ireturn, 1) := by decide +kernel
theorem p_BlockMap_load_0 {S : rz_S} {K : Int32 → rz_S → Prop} (w : rz_ev mDisk_readBlock [.ref 6, .int 7, .int 0, .ref 45] S (rz_i (fun xq1 Sq1 => K xq1 Sq1))) : rz mBlockMap_load 0 [(0, .ref 44)] [] S (rz_i K) := by
  refine rz_pure (pc' := 1) d_BlockMap_load_0 rfl ?_
  refine rz_getr d_BlockMap_load_1 f_0_15 rfl rfl ?_
  refine rz_bipush (v := 7) d_BlockMap_load_4 (by decide) ?_
  refine rz_iconst (v := 0) d_BlockMap_load_6 (by decide) ?_
  refine rz_pure (pc' := 8) d_BlockMap_load_7 rfl ?_
  refine rz_getr d_BlockMap_load_8 f_0_9 rfl rfl ?_
  refine rz_callVi (t := [.ref 45, .int 0, .int 7]) d_BlockMap_load_11 w_0_19 rfl rfl rfl w (fun xq1 Sq1 q1 => ?_)
  exact rz_ireti d_BlockMap_load_14 rfl rfl q1
theorem d_BlockMap_giveBack_0 : decode (rm_code mBlockMap_giveBack) 0 = .ok (.iload_n 1, 1) := by decide +kernel
theorem d_BlockMap_giveBack_1 : decode (rm_code mBlockMap_giveBack) 1 = .ok (.iload_n 2, 1) := by decide +kernel
theorem d_BlockMap_giveBack_2 : decode (rm_code mBlockMap_giveBack) 2 = .ok (.invokestatic 58, 3) := by decide +kernel
theorem d_BlockMap_giveBack_5 : decode (rm_code mBlockMap_giveBack) 5 = .ok (.ifCond .eq (62), 3) := by decide +kernel
theorem d_BlockMap_giveBack_8 : decode (rm_code mBlockMap_giveBack) 8 = .ok (.aload_n 0, 1) := by decide +kernel
theorem d_BlockMap_giveBack_9 : decode (rm_code mBlockMap_giveBack) 9 = .ok (.getfield 9, 3) := by decide +kernel
theorem d_BlockMap_giveBack_12 : decode (rm_code mBlockMap_giveBack) 12 = .ok (.iconst 3, 1) := by decide +kernel
theorem d_BlockMap_giveBack_13 : decode (rm_code mBlockMap_giveBack) 13 = .ok (.iconst 2, 1) := by decide +kernel
theorem d_BlockMap_giveBack_14 : decode (rm_code mBlockMap_giveBack) 14 = .ok (.iload_n 1, 1) := by decide +kernel
theorem d_BlockMap_giveBack_15 : decode (rm_code mBlockMap_giveBack) 15 = .ok (.imul, 1) := by decide +kernel
theorem d_BlockMap_giveBack_16 : decode (rm_code mBlockMap_giveBack) 16 = .ok (.iadd, 1) := by decide +kernel
theorem d_BlockMap_giveBack_17 : decode (rm_code mBlockMap_giveBack) 17 = .ok (.iaload, 1) := by decide +kernel
theorem d_BlockMap_giveBack_18 : decode (rm_code mBlockMap_giveBack) 18 = .ok (.iload_n 2, 1) := by decide +kernel
theorem d_BlockMap_giveBack_19 : decode (rm_code mBlockMap_giveBack) 19 = .ok (.ishr, 1) := by decide +kernel
theorem d_BlockMap_giveBack_20 : decode (rm_code mBlockMap_giveBack) 20 = .ok (.iconst 1, 1) := by decide +kernel
theorem d_BlockMap_giveBack_21 : decode (rm_code mBlockMap_giveBack) 21 = .ok (.iand, 1) := by decide +kernel
theorem d_BlockMap_giveBack_22 : decode (rm_code mBlockMap_giveBack) 22 = .ok (.ifCond .ne (45), 3) := by decide +kernel
theorem d_BlockMap_giveBack_25 : decode (rm_code mBlockMap_giveBack) 25 = .ok (.aload_n 0, 1) := by decide +kernel
theorem d_BlockMap_giveBack_26 : decode (rm_code mBlockMap_giveBack) 26 = .ok (.getfield 9, 3) := by decide +kernel
theorem d_BlockMap_giveBack_29 : decode (rm_code mBlockMap_giveBack) 29 = .ok (.iconst 3, 1) := by decide +kernel
theorem d_BlockMap_giveBack_30 : decode (rm_code mBlockMap_giveBack) 30 = .ok (.iconst 2, 1) := by decide +kernel
theorem d_BlockMap_giveBack_31 : decode (rm_code mBlockMap_giveBack) 31 = .ok (.iload_n 1, 1) := by decide +kernel
theorem d_BlockMap_giveBack_32 : decode (rm_code mBlockMap_giveBack) 32 = .ok (.imul, 1) := by decide +kernel
theorem d_BlockMap_giveBack_33 : decode (rm_code mBlockMap_giveBack) 33 = .ok (.iadd, 1) := by decide +kernel
theorem d_BlockMap_giveBack_34 : decode (rm_code mBlockMap_giveBack) 34 = .ok (.dup2, 1) := by decide +kernel
theorem d_BlockMap_giveBack_35 : decode (rm_code mBlockMap_giveBack) 35 = .ok (.iaload, 1) := by decide +kernel
theorem d_BlockMap_giveBack_36 : decode (rm_code mBlockMap_giveBack) 36 = .ok (.iconst 1, 1) := by decide +kernel
theorem d_BlockMap_giveBack_37 : decode (rm_code mBlockMap_giveBack) 37 = .ok (.iload_n 2, 1) := by decide +kernel
theorem d_BlockMap_giveBack_38 : decode (rm_code mBlockMap_giveBack) 38 = .ok (.ishl, 1) := by decide +kernel
theorem d_BlockMap_giveBack_39 : decode (rm_code mBlockMap_giveBack) 39 = .ok (.ior, 1) := by decide +kernel
theorem d_BlockMap_giveBack_40 : decode (rm_code mBlockMap_giveBack) 40 = .ok (.iastore, 1) := by decide +kernel
theorem d_BlockMap_giveBack_41 : decode (rm_code mBlockMap_giveBack) 41 = .ok (.aload_n 0, 1) := by decide +kernel
theorem d_BlockMap_giveBack_42 : decode (rm_code mBlockMap_giveBack) 42 = .ok (.getfield 9, 3) := by decide +kernel
theorem d_BlockMap_giveBack_45 : decode (rm_code mBlockMap_giveBack) 45 = .ok (.iconst 2, 1) := by decide +kernel
theorem d_BlockMap_giveBack_46 : decode (rm_code mBlockMap_giveBack) 46 = .ok (.iconst 2, 1) := by decide +kernel
theorem d_BlockMap_giveBack_47 : decode (rm_code mBlockMap_giveBack) 47 = .ok (.iload_n 1, 1) := by decide +kernel
theorem d_BlockMap_giveBack_48 : decode (rm_code mBlockMap_giveBack) 48 = .ok (.imul, 1) := by decide +kernel
theorem d_BlockMap_giveBack_49 : decode (rm_code mBlockMap_giveBack) 49 = .ok (.iadd, 1) := by decide +kernel
theorem d_BlockMap_giveBack_50 : decode (rm_code mBlockMap_giveBack) 50 = .ok (.aload_n 0, 1) := by decide +kernel
theorem d_BlockMap_giveBack_51 : decode (rm_code mBlockMap_giveBack) 51 = .ok (.getfield 9, 3) := by decide +kernel
theorem d_BlockMap_giveBack_54 : decode (rm_code mBlockMap_giveBack) 54 = .ok (.iconst 2, 1) := by decide +kernel
theorem d_BlockMap_giveBack_55 : decode (rm_code mBlockMap_giveBack) 55 = .ok (.iconst 2, 1) := by decide +kernel
theorem d_BlockMap_giveBack_56 : decode (rm_code mBlockMap_giveBack) 56 = .ok (.iload_n 1, 1) := by decide +kernel
theorem d_BlockMap_giveBack_57 : decode (rm_code mBlockMap_giveBack) 57 = .ok (.imul, 1) := by decide +kernel
theorem d_BlockMap_giveBack_58 : decode (rm_code mBlockMap_giveBack) 58 = .ok (.iadd, 1) := by decide +kernel
theorem d_BlockMap_giveBack_59 : decode (rm_code mBlockMap_giveBack) 59 = .ok (.iaload, 1) := by decide +kernel
theorem d_BlockMap_giveBack_60 : decode (rm_code mBlockMap_giveBack) 60 = .ok (.iconst 1, 1) := by decide +kernel
theorem d_BlockMap_giveBack_61 : decode (rm_code mBlockMap_giveBack) 61 = .ok (.iadd, 1) := by decide +kernel
theorem d_BlockMap_giveBack_62 : decode (rm_code mBlockMap_giveBack) 62 = .ok (.sipush (255), 3) := by decide +kernel
theorem d_BlockMap_giveBack_65 : decode (rm_code mBlockMap_giveBack) 65 = .ok (.iand, 1) := by decide +kernel
theorem d_BlockMap_giveBack_66 : decode (rm_code mBlockMap_giveBack) 66 = .ok (.iastore, 1) := by decide +kernel
theorem d_BlockMap_giveBack_67 : decode (rm_code mBlockMap_giveBack) 67 = .ok (.return_, 1) := by decide +kernel
theorem p_BlockMap_giveBack_0 {S : rz_S} {K : rz_S → Prop} {a1 : Int32} {a2 : Int32} (w : rz_ev mDisk_isLegal [.int a1, .int a2] S (rz_i (fun xq1 Sq1 => ((xq1 = 0 → K Sq1) ∧ (¬ xq1 = 0 → rx_in (3 + (2 * a1)) 64 = true ∧ ((((Sq1.1 45 ((3 + (2 * a1)).toNatClampNeg)) >>> (a2 &&& 31)) &&& 1 = 0 → rx_in (2 + (2 * a1)) 64 = true ∧ K (rz_fA (rz_fA Sq1 45 (upd (Sq1.1 45) ((3 + (2 * a1)).toNatClampNeg) ((Sq1.1 45 ((3 + (2 * a1)).toNatClampNeg)) ||| (1 <<< (a2 &&& 31))))) 45 (upd (upd (Sq1.1 45) ((3 + (2 * a1)).toNatClampNeg) ((Sq1.1 45 ((3 + (2 * a1)).toNatClampNeg)) ||| (1 <<< (a2 &&& 31)))) ((2 + (2 * a1)).toNatClampNeg) ((((upd (Sq1.1 45) ((3 + (2 * a1)).toNatClampNeg) ((Sq1.1 45 ((3 + (2 * a1)).toNatClampNeg)) ||| (1 <<< (a2 &&& 31)))) ((2 + (2 * a1)).toNatClampNeg)) + 1) &&& 255)))) ∧ (¬ ((Sq1.1 45 ((3 + (2 * a1)).toNatClampNeg)) >>> (a2 &&& 31)) &&& 1 = 0 → K Sq1))))))) : rz mBlockMap_giveBack 0 [(0, .ref 44), (1, .int a1), (2, .int a2)] [] S (rz_v K) := by
  refine rz_pure (pc' := 1) d_BlockMap_giveBack_0 rfl ?_
  refine rz_pure (pc' := 2) d_BlockMap_giveBack_1 rfl ?_
  refine rz_callSi (t := [.int a2, .int a1]) d_BlockMap_giveBack_2 rfl w_0_58 rfl rfl w (fun xq1 Sq1 q1 => ?_)
  refine rz_ifeq (tgt := 67) d_BlockMap_giveBack_5 rfl (fun b2 => ?_) (fun b2 => ?_)
  · skip
    exact rz_vretv d_BlockMap_giveBack_67 rfl (q1.1 b2)
  · skip
    refine rz_pure (pc' := 9) d_BlockMap_giveBack_8 rfl ?_
    refine rz_getr d_BlockMap_giveBack_9 f_0_9 rfl rfl ?_
    refine rz_iconst (v := 3) d_BlockMap_giveBack_12 (by decide) ?_
    refine rz_iconst (v := 2) d_BlockMap_giveBack_13 (by decide) ?_
    refine rz_pure (pc' := 15) d_BlockMap_giveBack_14 rfl ?_
    refine rz_imul d_BlockMap_giveBack_15 ?_
    refine rz_iadd d_BlockMap_giveBack_16 ?_
    refine rz_ialdv (F := Sq1.1 45) (i := (3 + (2 * a1)).toNatClampNeg) d_BlockMap_giveBack_17 rfl (q1.2 b2).1 rfl rfl ?_
    refine rz_pure (pc' := 19) d_BlockMap_giveBack_18 rfl ?_
    refine rz_ishr d_BlockMap_giveBack_19 ?_
    refine rz_iconst (v := 1) d_BlockMap_giveBack_20 (by decide) ?_
    refine rz_iand d_BlockMap_giveBack_21 ?_
    refine rz_ifne (tgt := 67) d_BlockMap_giveBack_22 rfl (fun b3 => ?_) (fun b3 => ?_)
    · skip
      exact rz_vretv d_BlockMap_giveBack_67 rfl ((q1.2 b2).2.2 b3)
    · skip
      refine rz_pure (pc' := 26) d_BlockMap_giveBack_25 rfl ?_
      refine rz_getr d_BlockMap_giveBack_26 f_0_9 rfl rfl ?_
      refine rz_iconst (v := 3) d_BlockMap_giveBack_29 (by decide) ?_
      refine rz_iconst (v := 2) d_BlockMap_giveBack_30 (by decide) ?_
      refine rz_pure (pc' := 32) d_BlockMap_giveBack_31 rfl ?_
      refine rz_imul d_BlockMap_giveBack_32 ?_
      refine rz_iadd d_BlockMap_giveBack_33 ?_
      refine rz_pure (pc' := 35) d_BlockMap_giveBack_34 rfl ?_
      refine rz_ialdv (F := Sq1.1 45) (i := (3 + (2 * a1)).toNatClampNeg) d_BlockMap_giveBack_35 rfl (q1.2 b2).1 rfl rfl ?_
      refine rz_iconst (v := 1) d_BlockMap_giveBack_36 (by decide) ?_
      refine rz_pure (pc' := 38) d_BlockMap_giveBack_37 rfl ?_
      refine rz_ishl d_BlockMap_giveBack_38 ?_
      refine rz_ior d_BlockMap_giveBack_39 ?_
      refine rz_iastv (F := Sq1.1 45) (i := (3 + (2 * a1)).toNatClampNeg) d_BlockMap_giveBack_40 rfl (q1.2 b2).1 rfl rfl ?_
      refine rz_pure (pc' := 42) d_BlockMap_giveBack_41 rfl ?_
      refine rz_getr d_BlockMap_giveBack_42 f_0_9 rfl rfl ?_
      refine rz_iconst (v := 2) d_BlockMap_giveBack_45 (by decide) ?_
      refine rz_iconst (v := 2) d_BlockMap_giveBack_46 (by decide) ?_
      refine rz_pure (pc' := 48) d_BlockMap_giveBack_47 rfl ?_
      refine rz_imul d_BlockMap_giveBack_48 ?_
      refine rz_iadd d_BlockMap_giveBack_49 ?_
      refine rz_pure (pc' := 51) d_BlockMap_giveBack_50 rfl ?_
      refine rz_getr d_BlockMap_giveBack_51 f_0_9 rfl rfl ?_
      refine rz_iconst (v := 2) d_BlockMap_giveBack_54 (by decide) ?_
      refine rz_iconst (v := 2) d_BlockMap_giveBack_55 (by decide) ?_
      refine rz_pure (pc' := 57) d_BlockMap_giveBack_56 rfl ?_
      refine rz_imul d_BlockMap_giveBack_57 ?_
      refine rz_iadd d_BlockMap_giveBack_58 ?_
      refine rz_ialdv (F := upd (Sq1.1 45) ((3 + (2 * a1)).toNatClampNeg) ((Sq1.1 45 ((3 + (2 * a1)).toNatClampNeg)) ||| (1 <<< (a2 &&& 31)))) (i := (2 + (2 * a1)).toNatClampNeg) d_BlockMap_giveBack_59 rfl ((q1.2 b2).2.1 b3).1 rz_fA_s rfl ?_
      refine rz_iconst (v := 1) d_BlockMap_giveBack_60 (by decide) ?_
      refine rz_iadd d_BlockMap_giveBack_61 ?_
      refine rz_sipush (v := 255) d_BlockMap_giveBack_62 (by decide) ?_
      refine rz_iand d_BlockMap_giveBack_65 ?_
      refine rz_iastv (F := upd (Sq1.1 45) ((3 + (2 * a1)).toNatClampNeg) ((Sq1.1 45 ((3 + (2 * a1)).toNatClampNeg)) ||| (1 <<< (a2 &&& 31)))) (i := (2 + (2 * a1)).toNatClampNeg) d_BlockMap_giveBack_66 rfl ((q1.2 b2).2.1 b3).1 rz_fA_s rfl ?_
      exact rz_vretv d_BlockMap_giveBack_67 rfl ((q1.2 b2).2.1 b3).2
theorem d_BlockMap_isFree_0 : decode (rm_code mBlockMap_isFree) 0 = .ok (.iload_n 1, 1) := by decide +kernel
theorem d_BlockMap_isFree_1 : decode (rm_code mBlockMap_isFree) 1 = .ok (.iload_n 2, 1) := by decide +kernel
theorem d_BlockMap_isFree_2 : decode (rm_code mBlockMap_isFree) 2 = .ok (.invokestatic 58, 3) := by decide +kernel
theorem d_BlockMap_isFree_5 : decode (rm_code mBlockMap_isFree) 5 = .ok (.ifCond .eq (25), 3) := by decide +kernel
theorem d_BlockMap_isFree_8 : decode (rm_code mBlockMap_isFree) 8 = .ok (.aload_n 0, 1) := by decide +kernel
theorem d_BlockMap_isFree_9 : decode (rm_code mBlockMap_isFree) 9 = .ok (.getfield 9, 3) := by decide +kernel
theorem d_BlockMap_isFree_12 : decode (rm_code mBlockMap_isFree) 12 = .ok (.iconst 3, 1) := by decide +kernel
theorem d_BlockMap_isFree_13 : decode (rm_code mBlockMap_isFree) 13 = .ok (.iconst 2, 1) := by decide +kernel
theorem d_BlockMap_isFree_14 : decode (rm_code mBlockMap_isFree) 14 = .ok (.iload_n 1, 1) := by decide +kernel
theorem d_BlockMap_isFree_15 : decode (rm_code mBlockMap_isFree) 15 = .ok (.imul, 1) := by decide +kernel
theorem d_BlockMap_isFree_16 : decode (rm_code mBlockMap_isFree) 16 = .ok (.iadd, 1) := by decide +kernel
theorem d_BlockMap_isFree_17 : decode (rm_code mBlockMap_isFree) 17 = .ok (.iaload, 1) := by decide +kernel
theorem d_BlockMap_isFree_18 : decode (rm_code mBlockMap_isFree) 18 = .ok (.iload_n 2, 1) := by decide +kernel
theorem d_BlockMap_isFree_19 : decode (rm_code mBlockMap_isFree) 19 = .ok (.ishr, 1) := by decide +kernel
theorem d_BlockMap_isFree_20 : decode (rm_code mBlockMap_isFree) 20 = .ok (.iconst 1, 1) := by decide +kernel
theorem d_BlockMap_isFree_21 : decode (rm_code mBlockMap_isFree) 21 = .ok (.iand, 1) := by decide +kernel
theorem d_BlockMap_isFree_22 : decode (rm_code mBlockMap_isFree) 22 = .ok (.iconst 1, 1) := by decide +kernel
theorem d_BlockMap_isFree_23 : decode (rm_code mBlockMap_isFree) 23 = .ok (.if_icmp .ne (7), 3) := by decide +kernel
theorem d_BlockMap_isFree_26 : decode (rm_code mBlockMap_isFree) 26 = .ok (.iconst 1, 1) := by decide +kernel
theorem d_BlockMap_isFree_27 : decode (rm_code mBlockMap_isFree) 27 = .ok (.goto (4), 3) := by decide +kernel
theorem d_BlockMap_isFree_30 : decode (rm_code mBlockMap_isFree) 30 = .ok (.iconst 0, 1) := by decide +kernel
theorem d_BlockMap_isFree_31 : decode (rm_code mBlockMap_isFree) 31 = .ok (.ireturn, 1) := by decide +kernel
theorem p_BlockMap_isFree_0 {S : rz_S} {K : Int32 → rz_S → Prop} {a1 : Int32} {a2 : Int32} (w : rz_ev mDisk_isLegal [.int a1, .int a2] S (rz_i (fun xq1 Sq1 => ((xq1 = 0 → K 0 Sq1) ∧ (¬ xq1 = 0 → rx_in (3 + (2 * a1)) 64 = true ∧ ((((Sq1.1 45 ((3 + (2 * a1)).toNatClampNeg)) >>> (a2 &&& 31)) &&& 1 = 1 → K 1 Sq1) ∧ (¬ ((Sq1.1 45 ((3 + (2 * a1)).toNatClampNeg)) >>> (a2 &&& 31)) &&& 1 = 1 → K 0 Sq1))))))) : rz mBlockMap_isFree 0 [(0, .ref 44), (1, .int a1), (2, .int a2)] [] S (rz_i K) := by
  refine rz_pure (pc' := 1) d_BlockMap_isFree_0 rfl ?_
  refine rz_pure (pc' := 2) d_BlockMap_isFree_1 rfl ?_
  refine rz_callSi (t := [.int a2, .int a1]) d_BlockMap_isFree_2 rfl w_0_58 rfl rfl w (fun xq1 Sq1 q1 => ?_)
  refine rz_ifeq (tgt := 30) d_BlockMap_isFree_5 rfl (fun b2 => ?_) (fun b2 => ?_)
  · skip
    refine rz_iconst (v := 0) d_BlockMap_isFree_30 (by decide) ?_
    exact rz_ireti d_BlockMap_isFree_31 rfl (by decide) (q1.1 b2)
  · skip
    refine rz_pure (pc' := 9) d_BlockMap_isFree_8 rfl ?_
    refine rz_getr d_BlockMap_isFree_9 f_0_9 rfl rfl ?_
    refine rz_iconst (v := 3) d_BlockMap_isFree_12 (by decide) ?_
    refine rz_iconst (v := 2) d_BlockMap_isFree_13 (by decide) ?_
    refine rz_pure (pc' := 15) d_BlockMap_isFree_14 rfl ?_
    refine rz_imul d_BlockMap_isFree_15 ?_
    refine rz_iadd d_BlockMap_isFree_16 ?_
    refine rz_ialdv (F := Sq1.1 45) (i := (3 + (2 * a1)).toNatClampNeg) d_BlockMap_isFree_17 rfl (q1.2 b2).1 rfl rfl ?_
    refine rz_pure (pc' := 19) d_BlockMap_isFree_18 rfl ?_
    refine rz_ishr d_BlockMap_isFree_19 ?_
    refine rz_iconst (v := 1) d_BlockMap_isFree_20 (by decide) ?_
    refine rz_iand d_BlockMap_isFree_21 ?_
    refine rz_iconst (v := 1) d_BlockMap_isFree_22 (by decide) ?_
    refine rz_icmpne (tgt := 30) d_BlockMap_isFree_23 rfl (fun b3 => ?_) (fun b3 => ?_)
    · skip
      refine rz_iconst (v := 0) d_BlockMap_isFree_30 (by decide) ?_
      exact rz_ireti d_BlockMap_isFree_31 rfl (by decide) ((q1.2 b2).2.2 b3)
    · skip
      refine rz_iconst (v := 1) d_BlockMap_isFree_26 (by decide) ?_
      refine rz_pure (pc' := 31) d_BlockMap_isFree_27 rfl ?_
      exact rz_ireti d_BlockMap_isFree_31 rfl (by decide) ((q1.2 b2).2.1 b3)
theorem d_Tape_startNumbers_0 : decode (rm_code mTape_startNumbers) 0 = .ok (.aload_n 0, 1) := by decide +kernel
theorem d_Tape_startNumbers_1 : decode (rm_code mTape_startNumbers) 1 = .ok (.aload_n 0, 1) := by decide +kernel
theorem d_Tape_startNumbers_2 : decode (rm_code mTape_startNumbers) 2 = .ok (.bipush (58), 2) := by decide +kernel
theorem d_Tape_startNumbers_4 : decode (rm_code mTape_startNumbers) 4 = .ok (.iconst 0, 1) := by decide +kernel
theorem d_Tape_startNumbers_5 : decode (rm_code mTape_startNumbers) 5 = .ok (.invokevirtual 28, 3) := by decide +kernel
theorem d_Tape_startNumbers_8 : decode (rm_code mTape_startNumbers) 8 = .ok (.putfield 31, 3) := by decide +kernel
theorem d_Tape_startNumbers_11 : decode (rm_code mTape_startNumbers) 11 = .ok (.return_, 1) := by decide +kernel
theorem p_Tape_startNumbers_0 {S : rz_S} {K : rz_S → Prop} (w : rz_ev mTape_find [.ref 1, .int 58, .int 0] S (rz_i (fun xq1 Sq1 => K (rz_uI Sq1 1 3 xq1)))) : rz mTape_startNumbers 0 [(0, .ref 1)] [] S (rz_v K) := by
  refine rz_pure (pc' := 1) d_Tape_startNumbers_0 rfl ?_
  refine rz_pure (pc' := 2) d_Tape_startNumbers_1 rfl ?_
  refine rz_bipush (v := 58) d_Tape_startNumbers_2 (by decide) ?_
  refine rz_iconst (v := 0) d_Tape_startNumbers_4 (by decide) ?_
  refine rz_callVi (t := [.int 0, .int 58]) d_Tape_startNumbers_5 w_10_28 rfl rfl rfl w (fun xq1 Sq1 q1 => ?_)
  refine rz_puti d_Tape_startNumbers_8 f_10_31 rfl rfl rfl ?_
  exact rz_vretv d_Tape_startNumbers_11 rfl q1
theorem d_Tape_nextNumber_0 : decode (rm_code mTape_nextNumber) 0 = .ok (.aload_n 0, 1) := by decide +kernel
theorem d_Tape_nextNumber_1 : decode (rm_code mTape_nextNumber) 1 = .ok (.getfield 31, 3) := by decide +kernel
theorem d_Tape_nextNumber_4 : decode (rm_code mTape_nextNumber) 4 = .ok (.ifCond .ge (5), 3) := by decide +kernel
theorem d_Tape_nextNumber_7 : decode (rm_code mTape_nextNumber) 7 = .ok (.iconst (-1), 1) := by decide +kernel
theorem d_Tape_nextNumber_8 : decode (rm_code mTape_nextNumber) 8 = .ok (.ireturn, 1) := by decide +kernel
theorem d_Tape_nextNumber_9 : decode (rm_code mTape_nextNumber) 9 = .ok (.aload_n 0, 1) := by decide +kernel
theorem d_Tape_nextNumber_10 : decode (rm_code mTape_nextNumber) 10 = .ok (.getfield 31, 3) := by decide +kernel
theorem d_Tape_nextNumber_13 : decode (rm_code mTape_nextNumber) 13 = .ok (.istore_n 1, 1) := by decide +kernel
theorem d_Tape_nextNumber_14 : decode (rm_code mTape_nextNumber) 14 = .ok (.iload_n 1, 1) := by decide +kernel
theorem d_Tape_nextNumber_15 : decode (rm_code mTape_nextNumber) 15 = .ok (.aload_n 0, 1) := by decide +kernel
theorem d_Tape_nextNumber_16 : decode (rm_code mTape_nextNumber) 16 = .ok (.getfield 19, 3) := by decide +kernel
theorem d_Tape_nextNumber_19 : decode (rm_code mTape_nextNumber) 19 = .ok (.if_icmp .ge (20), 3) := by decide +kernel
theorem d_Tape_nextNumber_22 : decode (rm_code mTape_nextNumber) 22 = .ok (.aload_n 0, 1) := by decide +kernel
theorem d_Tape_nextNumber_23 : decode (rm_code mTape_nextNumber) 23 = .ok (.iload_n 1, 1) := by decide +kernel
theorem d_Tape_nextNumber_24 : decode (rm_code mTape_nextNumber) 24 = .ok (.invokevirtual 34, 3) := by decide +kernel
theorem d_Tape_nextNumber_27 : decode (rm_code mTape_nextNumber) 27 = .ok (.invokestatic 38, 3) := by decide +kernel
theorem d_Tape_nextNumber_30 : decode (rm_code mTape_nextNumber) 30 = .ok (.ifCond .ne (9), 3) := by decide +kernel
theorem d_Tape_nextNumber_33 : decode (rm_code mTape_nextNumber) 33 = .ok (.iinc 1 (1), 3) := by decide +kernel
theorem d_Tape_nextNumber_36 : decode (rm_code mTape_nextNumber) 36 = .ok (.goto (-22), 3) := by decide +kernel
theorem d_Tape_nextNumber_39 : decode (rm_code mTape_nextNumber) 39 = .ok (.iconst 0, 1) := by decide +kernel
theorem d_Tape_nextNumber_40 : decode (rm_code mTape_nextNumber) 40 = .ok (.istore_n 2, 1) := by decide +kernel
theorem d_Tape_nextNumber_41 : decode (rm_code mTape_nextNumber) 41 = .ok (.iload_n 1, 1) := by decide +kernel
theorem d_Tape_nextNumber_42 : decode (rm_code mTape_nextNumber) 42 = .ok (.istore_n 3, 1) := by decide +kernel
theorem d_Tape_nextNumber_43 : decode (rm_code mTape_nextNumber) 43 = .ok (.iload_n 3, 1) := by decide +kernel
theorem d_Tape_nextNumber_44 : decode (rm_code mTape_nextNumber) 44 = .ok (.aload_n 0, 1) := by decide +kernel
theorem d_Tape_nextNumber_45 : decode (rm_code mTape_nextNumber) 45 = .ok (.getfield 19, 3) := by decide +kernel
theorem d_Tape_nextNumber_48 : decode (rm_code mTape_nextNumber) 48 = .ok (.if_icmp .ge (41), 3) := by decide +kernel
theorem d_Tape_nextNumber_51 : decode (rm_code mTape_nextNumber) 51 = .ok (.iload_n 3, 1) := by decide +kernel
theorem d_Tape_nextNumber_52 : decode (rm_code mTape_nextNumber) 52 = .ok (.iload_n 1, 1) := by decide +kernel
theorem d_Tape_nextNumber_53 : decode (rm_code mTape_nextNumber) 53 = .ok (.iconst 4, 1) := by decide +kernel
theorem d_Tape_nextNumber_54 : decode (rm_code mTape_nextNumber) 54 = .ok (.iadd, 1) := by decide +kernel
theorem d_Tape_nextNumber_55 : decode (rm_code mTape_nextNumber) 55 = .ok (.if_icmp .ge (34), 3) := by decide +kernel
theorem d_Tape_nextNumber_58 : decode (rm_code mTape_nextNumber) 58 = .ok (.aload_n 0, 1) := by decide +kernel
theorem d_Tape_nextNumber_59 : decode (rm_code mTape_nextNumber) 59 = .ok (.iload_n 3, 1) := by decide +kernel
theorem d_Tape_nextNumber_60 : decode (rm_code mTape_nextNumber) 60 = .ok (.invokevirtual 34, 3) := by decide +kernel
theorem d_Tape_nextNumber_63 : decode (rm_code mTape_nextNumber) 63 = .ok (.invokestatic 38, 3) := by decide +kernel
theorem d_Tape_nextNumber_66 : decode (rm_code mTape_nextNumber) 66 = .ok (.ifCond .eq (23), 3) := by decide +kernel
theorem d_Tape_nextNumber_69 : decode (rm_code mTape_nextNumber) 69 = .ok (.bipush (10), 2) := by decide +kernel
theorem d_Tape_nextNumber_71 : decode (rm_code mTape_nextNumber) 71 = .ok (.iload_n 2, 1) := by decide +kernel
theorem d_Tape_nextNumber_72 : decode (rm_code mTape_nextNumber) 72 = .ok (.imul, 1) := by decide +kernel
theorem d_Tape_nextNumber_73 : decode (rm_code mTape_nextNumber) 73 = .ok (.aload_n 0, 1) := by decide +kernel
theorem d_Tape_nextNumber_74 : decode (rm_code mTape_nextNumber) 74 = .ok (.iload_n 3, 1) := by decide +kernel
theorem d_Tape_nextNumber_75 : decode (rm_code mTape_nextNumber) 75 = .ok (.invokevirtual 34, 3) := by decide +kernel
theorem d_Tape_nextNumber_78 : decode (rm_code mTape_nextNumber) 78 = .ok (.iadd, 1) := by decide +kernel
theorem d_Tape_nextNumber_79 : decode (rm_code mTape_nextNumber) 79 = .ok (.bipush (48), 2) := by decide +kernel
theorem d_Tape_nextNumber_81 : decode (rm_code mTape_nextNumber) 81 = .ok (.isub, 1) := by decide +kernel
theorem d_Tape_nextNumber_82 : decode (rm_code mTape_nextNumber) 82 = .ok (.istore_n 2, 1) := by decide +kernel
theorem d_Tape_nextNumber_83 : decode (rm_code mTape_nextNumber) 83 = .ok (.iinc 3 (1), 3) := by decide +kernel
theorem d_Tape_nextNumber_86 : decode (rm_code mTape_nextNumber) 86 = .ok (.goto (-43), 3) := by decide +kernel
theorem d_Tape_nextNumber_89 : decode (rm_code mTape_nextNumber) 89 = .ok (.aload_n 0, 1) := by decide +kernel
theorem d_Tape_nextNumber_90 : decode (rm_code mTape_nextNumber) 90 = .ok (.iload_n 3, 1) := by decide +kernel
theorem d_Tape_nextNumber_91 : decode (rm_code mTape_nextNumber) 91 = .ok (.putfield 31, 3) := by decide +kernel
theorem d_Tape_nextNumber_94 : decode (rm_code mTape_nextNumber) 94 = .ok (.iload_n 3, 1) := by decide +kernel
theorem d_Tape_nextNumber_95 : decode (rm_code mTape_nextNumber) 95 = .ok (.iload_n 1, 1) := by decide +kernel
theorem d_Tape_nextNumber_96 : decode (rm_code mTape_nextNumber) 96 = .ok (.if_icmp .eq (17), 3) := by decide +kernel
theorem d_Tape_nextNumber_99 : decode (rm_code mTape_nextNumber) 99 = .ok (.iload_n 3, 1) := by decide +kernel
theorem d_Tape_nextNumber_100 : decode (rm_code mTape_nextNumber) 100 = .ok (.iload_n 1, 1) := by decide +kernel
theorem d_Tape_nextNumber_101 : decode (rm_code mTape_nextNumber) 101 = .ok (.iconst 3, 1) := by decide +kernel
theorem d_Tape_nextNumber_102 : decode (rm_code mTape_nextNumber) 102 = .ok (.iadd, 1) := by decide +kernel
theorem d_Tape_nextNumber_103 : decode (rm_code mTape_nextNumber) 103 = .ok (.if_icmp .gt (10), 3) := by decide +kernel
theorem d_Tape_nextNumber_106 : decode (rm_code mTape_nextNumber) 106 = .ok (.iload_n 2, 1) := by decide +kernel
theorem d_Tape_nextNumber_107 : decode (rm_code mTape_nextNumber) 107 = .ok (.sipush (255), 3) := by decide +kernel
theorem d_Tape_nextNumber_110 : decode (rm_code mTape_nextNumber) 110 = .ok (.if_icmp .le (7), 3) := by decide +kernel
theorem d_Tape_nextNumber_113 : decode (rm_code mTape_nextNumber) 113 = .ok (.iconst (-1), 1) := by decide +kernel
theorem d_Tape_nextNumber_114 : decode (rm_code mTape_nextNumber) 114 = .ok (.goto (4), 3) := by decide +kernel
theorem d_Tape_nextNumber_117 : decode (rm_code mTape_nextNumber) 117 = .ok (.iload_n 2, 1) := by decide +kernel
theorem d_Tape_nextNumber_118 : decode (rm_code mTape_nextNumber) 118 = .ok (.ireturn, 1) := by decide +kernel
theorem p_Tape_nextNumber_0 {S : rz_S} {K : Int32 → rz_S → Prop} (w : ((0 ≤ S.2 1 3 → rz mTape_nextNumber 14 [(0, .ref 1), (1, .int (S.2 1 3))] [] S (rz_i K)) ∧ (¬ 0 ≤ S.2 1 3 → K (-1) S))) : rz mTape_nextNumber 0 [(0, .ref 1)] [] S (rz_i K) := by
  refine rz_pure (pc' := 1) d_Tape_nextNumber_0 rfl ?_
  refine rz_getiv (v := S.2 1 3) d_Tape_nextNumber_1 f_10_31 rfl rfl rfl ?_
  refine rz_ifge (tgt := 9) d_Tape_nextNumber_4 rfl (fun b1 => ?_) (fun b1 => ?_)
  · skip
    refine rz_pure (pc' := 10) d_Tape_nextNumber_9 rfl ?_
    refine rz_getiv (v := S.2 1 3) d_Tape_nextNumber_10 f_10_31 rfl rfl rfl ?_
    refine rz_pure (pc' := 14) (l' := [(1, .int (S.2 1 3)), (0, .ref 1)]) d_Tape_nextNumber_13 rfl ?_
    exact rz_pick (ks := [0, 1]) (l := [(0, .ref 1), (1, .int (S.2 1 3))]) rfl rfl (by decide) rfl (w.1 b1)
  · skip
    refine rz_iconst (v := -1) d_Tape_nextNumber_7 (by decide) ?_
    exact rz_ireti d_Tape_nextNumber_8 rfl rfl (w.2 b1)
theorem p_Tape_nextNumber_14 {S : rz_S} {K : Int32 → rz_S → Prop} {a1 : Int32} (w : ((S.2 1 2 ≤ a1 → rz mTape_nextNumber 43 [(0, .ref 1), (1, .int a1), (2, .int 0), (3, .int a1)] [] S (rz_i K)) ∧ (¬ S.2 1 2 ≤ a1 → rz_ev mTape_byteAt [.ref 1, .int a1] S (rz_i (fun xq2 Sq2 => rz_ev mTape_isDigit [.int xq2] Sq2 (rz_i (fun xq3 Sq3 => ((xq3 = 0 → rz mTape_nextNumber 14 [(0, .ref 1), (1, .int (a1 + 1))] [] Sq3 (rz_i K)) ∧ (¬ xq3 = 0 → rz mTape_nextNumber 43 [(0, .ref 1), (1, .int a1), (2, .int 0), (3, .int a1)] [] Sq3 (rz_i K)))))))))) : rz mTape_nextNumber 14 [(0, .ref 1), (1, .int a1)] [] S (rz_i K) := by
  refine rz_pure (pc' := 15) d_Tape_nextNumber_14 rfl ?_
  refine rz_pure (pc' := 16) d_Tape_nextNumber_15 rfl ?_
  refine rz_getiv (v := S.2 1 2) d_Tape_nextNumber_16 f_10_19 rfl rfl rfl ?_
  refine rz_icmpge (tgt := 39) d_Tape_nextNumber_19 rfl (fun b1 => ?_) (fun b1 => ?_)
  · skip
    refine rz_iconst (v := 0) d_Tape_nextNumber_39 (by decide) ?_
    refine rz_pure (pc' := 41) (l' := [(2, .int 0), (0, .ref 1), (1, .int a1)]) d_Tape_nextNumber_40 rfl ?_
    refine rz_pure (pc' := 42) d_Tape_nextNumber_41 rfl ?_
    refine rz_pure (pc' := 43) (l' := [(3, .int a1), (2, .int 0), (0, .ref 1), (1, .int a1)]) d_Tape_nextNumber_42 rfl ?_
    exact rz_pick (ks := [0, 1, 2, 3]) (l := [(0, .ref 1), (1, .int a1), (2, .int 0), (3, .int a1)]) rfl rfl (by decide) rfl (w.1 b1)
  · skip
    refine rz_pure (pc' := 23) d_Tape_nextNumber_22 rfl ?_
    refine rz_pure (pc' := 24) d_Tape_nextNumber_23 rfl ?_
    refine rz_callVi (t := [.int a1]) d_Tape_nextNumber_24 w_10_34 rfl rfl rfl (w.2 b1) (fun xq2 Sq2 q2 => ?_)
    refine rz_callSi (t := [.int xq2]) d_Tape_nextNumber_27 rfl w_10_38 rfl rfl q2 (fun xq3 Sq3 q3 => ?_)
    refine rz_ifne (tgt := 39) d_Tape_nextNumber_30 rfl (fun b4 => ?_) (fun b4 => ?_)
    · skip
      refine rz_iconst (v := 0) d_Tape_nextNumber_39 (by decide) ?_
      refine rz_pure (pc' := 41) (l' := [(2, .int 0), (0, .ref 1), (1, .int a1)]) d_Tape_nextNumber_40 rfl ?_
      refine rz_pure (pc' := 42) d_Tape_nextNumber_41 rfl ?_
      refine rz_pure (pc' := 43) (l' := [(3, .int a1), (2, .int 0), (0, .ref 1), (1, .int a1)]) d_Tape_nextNumber_42 rfl ?_
      exact rz_pick (ks := [0, 1, 2, 3]) (l := [(0, .ref 1), (1, .int a1), (2, .int 0), (3, .int a1)]) rfl rfl (by decide) rfl (q3.2 b4)
    · skip
      refine rz_pure (pc' := 36) (l' := [(1, .int (a1 + 1)), (0, .ref 1)]) d_Tape_nextNumber_33 rfl ?_
      refine rz_pure (pc' := 14) d_Tape_nextNumber_36 rfl ?_
      exact rz_pick (ks := [0, 1]) (l := [(0, .ref 1), (1, .int (a1 + 1))]) rfl rfl (by decide) rfl (q3.1 b4)
theorem p_Tape_nextNumber_43 {S : rz_S} {K : Int32 → rz_S → Prop} {a1 : Int32} {a2 : Int32} {a3 : Int32} (w : ((S.2 1 2 ≤ a3 → rz mTape_nextNumber 89 [(0, .ref 1), (1, .int a1), (2, .int a2), (3, .int a3)] [] S (rz_i K)) ∧ (¬ S.2 1 2 ≤ a3 → ((a1 + 4 ≤ a3 → rz mTape_nextNumber 89 [(0, .ref 1), (1, .int a1), (2, .int a2), (3, .int a3)] [] S (rz_i K)) ∧ (¬ a1 + 4 ≤ a3 → rz_ev mTape_byteAt [.ref 1, .int a3] S (rz_i (fun xq3 Sq3 => rz_ev mTape_isDigit [.int xq3] Sq3 (rz_i (fun xq4 Sq4 => ((xq4 = 0 → rz mTape_nextNumber 89 [(0, .ref 1), (1, .int a1), (2, .int a2), (3, .int a3)] [] Sq4 (rz_i K)) ∧ (¬ xq4 = 0 → rz_ev mTape_byteAt [.ref 1, .int a3] Sq4 (rz_i (fun xq6 Sq6 => rz mTape_nextNumber 43 [(0, .ref 1), (1, .int a1), (2, .int (((10 * a2) + xq6) - 48)), (3, .int (a3 + 1))] [] Sq6 (rz_i K)))))))))))))) : rz mTape_nextNumber 43 [(0, .ref 1), (1, .int a1), (2, .int a2), (3, .int a3)] [] S (rz_i K) := by
  refine rz_pure (pc' := 44) d_Tape_nextNumber_43 rfl ?_
  refine rz_pure (pc' := 45) d_Tape_nextNumber_44 rfl ?_
  refine rz_getiv (v := S.2 1 2) d_Tape_nextNumber_45 f_10_19 rfl rfl rfl ?_
  refine rz_icmpge (tgt := 89) d_Tape_nextNumber_48 rfl (fun b1 => ?_) (fun b1 => ?_)
  · skip
    exact rz_pick (ks := [0, 1, 2, 3]) (l := [(0, .ref 1), (1, .int a1), (2, .int a2), (3, .int a3)]) rfl rfl (by decide) rfl (w.1 b1)
  · skip
    refine rz_pure (pc' := 52) d_Tape_nextNumber_51 rfl ?_
    refine rz_pure (pc' := 53) d_Tape_nextNumber_52 rfl ?_
    refine rz_iconst (v := 4) d_Tape_nextNumber_53 (by decide) ?_
    refine rz_iadd d_Tape_nextNumber_54 ?_
    refine rz_icmpge (tgt := 89) d_Tape_nextNumber_55 rfl (fun b2 => ?_) (fun b2 => ?_)
    · skip
      exact rz_pick (ks := [0, 1, 2, 3]) (l := [(0, .ref 1), (1, .int a1), (2, .int a2), (3, .int a3)]) rfl rfl (by decide) rfl ((w.2 b1).1 b2)
    · skip
      refine rz_pure (pc' := 59) d_Tape_nextNumber_58 rfl ?_
      refine rz_pure (pc' := 60) d_Tape_nextNumber_59 rfl ?_
      refine rz_callVi (t := [.int a3]) d_Tape_nextNumber_60 w_10_34 rfl rfl rfl ((w.2 b1).2 b2) (fun xq3 Sq3 q3 => ?_)
      refine rz_callSi (t := [.int xq3]) d_Tape_nextNumber_63 rfl w_10_38 rfl rfl q3 (fun xq4 Sq4 q4 => ?_)
      refine rz_ifeq (tgt := 89) d_Tape_nextNumber_66 rfl (fun b5 => ?_) (fun b5 => ?_)
      · skip
        exact rz_pick (ks := [0, 1, 2, 3]) (l := [(0, .ref 1), (1, .int a1), (2, .int a2), (3, .int a3)]) rfl rfl (by decide) rfl (q4.1 b5)
      · skip
        refine rz_bipush (v := 10) d_Tape_nextNumber_69 (by decide) ?_
        refine rz_pure (pc' := 72) d_Tape_nextNumber_71 rfl ?_
        refine rz_imul d_Tape_nextNumber_72 ?_
        refine rz_pure (pc' := 74) d_Tape_nextNumber_73 rfl ?_
        refine rz_pure (pc' := 75) d_Tape_nextNumber_74 rfl ?_
        refine rz_callVi (t := [.int a3]) d_Tape_nextNumber_75 w_10_34 rfl rfl rfl (q4.2 b5) (fun xq6 Sq6 q6 => ?_)
        refine rz_iadd d_Tape_nextNumber_78 ?_
        refine rz_bipush (v := 48) d_Tape_nextNumber_79 (by decide) ?_
        refine rz_isub d_Tape_nextNumber_81 ?_
        refine rz_pure (pc' := 83) (l' := [(2, .int (((10 * a2) + xq6) - 48)), (0, .ref 1), (1, .int a1), (3, .int a3)]) d_Tape_nextNumber_82 rfl ?_
        refine rz_pure (pc' := 86) (l' := [(3, .int (a3 + 1)), (2, .int (((10 * a2) + xq6) - 48)), (0, .ref 1), (1, .int a1)]) d_Tape_nextNumber_83 rfl ?_
        refine rz_pure (pc' := 43) d_Tape_nextNumber_86 rfl ?_
        exact rz_pick (ks := [0, 1, 2, 3]) (l := [(0, .ref 1), (1, .int a1), (2, .int (((10 * a2) + xq6) - 48)), (3, .int (a3 + 1))]) rfl rfl (by decide) rfl q6
theorem p_Tape_nextNumber_89 {S : rz_S} {K : Int32 → rz_S → Prop} {a1 : Int32} {a2 : Int32} {a3 : Int32} (w : ((a3 = a1 → K (-1) (rz_uI S 1 3 a3)) ∧ (¬ a3 = a1 → ((a1 + 3 < a3 → K (-1) (rz_uI S 1 3 a3)) ∧ (¬ a1 + 3 < a3 → ((a2 ≤ 255 → K a2 (rz_uI S 1 3 a3)) ∧ (¬ a2 ≤ 255 → K (-1) (rz_uI S 1 3 a3)))))))) : rz mTape_nextNumber 89 [(0, .ref 1), (1, .int a1), (2, .int a2), (3, .int a3)] [] S (rz_i K) := by
  refine rz_pure (pc' := 90) d_Tape_nextNumber_89 rfl ?_
  refine rz_pure (pc' := 91) d_Tape_nextNumber_90 rfl ?_
  refine rz_puti d_Tape_nextNumber_91 f_10_31 rfl rfl rfl ?_
  refine rz_pure (pc' := 95) d_Tape_nextNumber_94 rfl ?_
  refine rz_pure (pc' := 96) d_Tape_nextNumber_95 rfl ?_
  refine rz_icmpeq (tgt := 113) d_Tape_nextNumber_96 rfl (fun b1 => ?_) (fun b1 => ?_)
  · skip
    refine rz_iconst (v := -1) d_Tape_nextNumber_113 (by decide) ?_
    refine rz_pure (pc' := 118) d_Tape_nextNumber_114 rfl ?_
    exact rz_ireti d_Tape_nextNumber_118 rfl rfl (w.1 b1)
  · skip
    refine rz_pure (pc' := 100) d_Tape_nextNumber_99 rfl ?_
    refine rz_pure (pc' := 101) d_Tape_nextNumber_100 rfl ?_
    refine rz_iconst (v := 3) d_Tape_nextNumber_101 (by decide) ?_
    refine rz_iadd d_Tape_nextNumber_102 ?_
    refine rz_icmpgt (tgt := 113) d_Tape_nextNumber_103 rfl (fun b2 => ?_) (fun b2 => ?_)
    · skip
      refine rz_iconst (v := -1) d_Tape_nextNumber_113 (by decide) ?_
      refine rz_pure (pc' := 118) d_Tape_nextNumber_114 rfl ?_
      exact rz_ireti d_Tape_nextNumber_118 rfl rfl ((w.2 b1).1 b2)
    · skip
      refine rz_pure (pc' := 107) d_Tape_nextNumber_106 rfl ?_
      refine rz_sipush (v := 255) d_Tape_nextNumber_107 (by decide) ?_
      refine rz_icmple (tgt := 117) d_Tape_nextNumber_110 rfl (fun b3 => ?_) (fun b3 => ?_)
      · skip
        refine rz_pure (pc' := 118) d_Tape_nextNumber_117 rfl ?_
        exact rz_ireti d_Tape_nextNumber_118 rfl rfl (((w.2 b1).2 b2).1 b3)
      · skip
        refine rz_iconst (v := -1) d_Tape_nextNumber_113 (by decide) ?_
        refine rz_pure (pc' := 118) d_Tape_nextNumber_114 rfl ?_
        exact rz_ireti d_Tape_nextNumber_118 rfl rfl (((w.2 b1).2 b2).2 b3)
theorem d_Tape_isDigit_0 : decode (rm_code mTape_isDigit) 0 = .ok (.iload_n 0, 1) := by decide +kernel
theorem d_Tape_isDigit_1 : decode (rm_code mTape_isDigit) 1 = .ok (.bipush (48), 2) := by decide +kernel
theorem d_Tape_isDigit_3 : decode (rm_code mTape_isDigit) 3 = .ok (.if_icmp .lt (13), 3) := by decide +kernel
theorem d_Tape_isDigit_6 : decode (rm_code mTape_isDigit) 6 = .ok (.iload_n 0, 1) := by decide +kernel
theorem d_Tape_isDigit_7 : decode (rm_code mTape_isDigit) 7 = .ok (.bipush (57), 2) := by decide +kernel
theorem d_Tape_isDigit_9 : decode (rm_code mTape_isDigit) 9 = .ok (.if_icmp .gt (7), 3) := by decide +kernel
theorem d_Tape_isDigit_12 : decode (rm_code mTape_isDigit) 12 = .ok (.iconst 1, 1) := by decide +kernel
theorem d_Tape_isDigit_13 : decode (rm_code mTape_isDigit) 13 = .ok (.goto (4), 3) := by decide +kernel
theorem d_Tape_isDigit_16 : decode (rm_code mTape_isDigit) 16 = .ok (.iconst 0, 1) := by decide +kernel
theorem d_Tape_isDigit_17 : decode (rm_code mTape_isDigit) 17 = .ok (.ireturn, 1) := by decide +kernel
theorem p_Tape_isDigit_0 {S : rz_S} {K : Int32 → rz_S → Prop} {a0 : Int32} (w : ((a0 < 48 → K 0 S) ∧ (¬ a0 < 48 → ((57 < a0 → K 0 S) ∧ (¬ 57 < a0 → K 1 S))))) : rz mTape_isDigit 0 [(0, .int a0)] [] S (rz_i K) := by
  refine rz_pure (pc' := 1) d_Tape_isDigit_0 rfl ?_
  refine rz_bipush (v := 48) d_Tape_isDigit_1 (by decide) ?_
  refine rz_icmplt (tgt := 16) d_Tape_isDigit_3 rfl (fun b1 => ?_) (fun b1 => ?_)
  · skip
    refine rz_iconst (v := 0) d_Tape_isDigit_16 (by decide) ?_
    exact rz_ireti d_Tape_isDigit_17 rfl (by decide) (w.1 b1)
  · skip
    refine rz_pure (pc' := 7) d_Tape_isDigit_6 rfl ?_
    refine rz_bipush (v := 57) d_Tape_isDigit_7 (by decide) ?_
    refine rz_icmpgt (tgt := 16) d_Tape_isDigit_9 rfl (fun b2 => ?_) (fun b2 => ?_)
    · skip
      refine rz_iconst (v := 0) d_Tape_isDigit_16 (by decide) ?_
      exact rz_ireti d_Tape_isDigit_17 rfl (by decide) ((w.2 b1).1 b2)
    · skip
      refine rz_iconst (v := 1) d_Tape_isDigit_12 (by decide) ?_
      refine rz_pure (pc' := 17) d_Tape_isDigit_13 rfl ?_
      exact rz_ireti d_Tape_isDigit_17 rfl (by decide) ((w.2 b1).2 b2)
theorem d_Status_addReply_0 : decode (rm_code mStatus_addReply) 0 = .ok (.aload_n 0, 1) := by decide +kernel
theorem d_Status_addReply_1 : decode (rm_code mStatus_addReply) 1 = .ok (.getfield 26, 3) := by decide +kernel
theorem d_Status_addReply_4 : decode (rm_code mStatus_addReply) 4 = .ok (.bipush (32), 2) := by decide +kernel
theorem d_Status_addReply_6 : decode (rm_code mStatus_addReply) 6 = .ok (.if_icmp .ge (23), 3) := by decide +kernel
theorem d_Status_addReply_9 : decode (rm_code mStatus_addReply) 9 = .ok (.aload_n 0, 1) := by decide +kernel
theorem d_Status_addReply_10 : decode (rm_code mStatus_addReply) 10 = .ok (.getfield 19, 3) := by decide +kernel
theorem d_Status_addReply_13 : decode (rm_code mStatus_addReply) 13 = .ok (.aload_n 0, 1) := by decide +kernel
theorem d_Status_addReply_14 : decode (rm_code mStatus_addReply) 14 = .ok (.getfield 26, 3) := by decide +kernel
theorem d_Status_addReply_17 : decode (rm_code mStatus_addReply) 17 = .ok (.iload_n 1, 1) := by decide +kernel
theorem d_Status_addReply_18 : decode (rm_code mStatus_addReply) 18 = .ok (.iastore, 1) := by decide +kernel
theorem d_Status_addReply_19 : decode (rm_code mStatus_addReply) 19 = .ok (.aload_n 0, 1) := by decide +kernel
theorem d_Status_addReply_20 : decode (rm_code mStatus_addReply) 20 = .ok (.dup, 1) := by decide +kernel
theorem d_Status_addReply_21 : decode (rm_code mStatus_addReply) 21 = .ok (.getfield 26, 3) := by decide +kernel
theorem d_Status_addReply_24 : decode (rm_code mStatus_addReply) 24 = .ok (.iconst 1, 1) := by decide +kernel
theorem d_Status_addReply_25 : decode (rm_code mStatus_addReply) 25 = .ok (.iadd, 1) := by decide +kernel
theorem d_Status_addReply_26 : decode (rm_code mStatus_addReply) 26 = .ok (.putfield 26, 3) := by decide +kernel
theorem d_Status_addReply_29 : decode (rm_code mStatus_addReply) 29 = .ok (.return_, 1) := by decide +kernel
theorem p_Status_addReply_0 {S : rz_S} {K : rz_S → Prop} {a1 : Int32} (w : ((32 ≤ S.2 3 8 → K S) ∧ (¬ 32 ≤ S.2 3 8 → rx_in (S.2 3 8) 32 = true ∧ K (rz_uI (rz_fA S 5 (upd (S.1 5) ((S.2 3 8).toNatClampNeg) a1)) 3 8 ((S.2 3 8) + 1))))) : rz mStatus_addReply 0 [(0, .ref 3), (1, .int a1)] [] S (rz_v K) := by
  refine rz_pure (pc' := 1) d_Status_addReply_0 rfl ?_
  refine rz_getiv (v := S.2 3 8) d_Status_addReply_1 f_9_26 rfl rfl rfl ?_
  refine rz_bipush (v := 32) d_Status_addReply_4 (by decide) ?_
  refine rz_icmpge (tgt := 29) d_Status_addReply_6 rfl (fun b1 => ?_) (fun b1 => ?_)
  · skip
    exact rz_vretv d_Status_addReply_29 rfl (w.1 b1)
  · skip
    refine rz_pure (pc' := 10) d_Status_addReply_9 rfl ?_
    refine rz_getr d_Status_addReply_10 f_9_19 rfl rfl ?_
    refine rz_pure (pc' := 14) d_Status_addReply_13 rfl ?_
    refine rz_getiv (v := S.2 3 8) d_Status_addReply_14 f_9_26 rfl rfl rfl ?_
    refine rz_pure (pc' := 18) d_Status_addReply_17 rfl ?_
    refine rz_iastv (F := S.1 5) (i := (S.2 3 8).toNatClampNeg) d_Status_addReply_18 rfl (w.2 b1).1 rfl rfl ?_
    refine rz_pure (pc' := 20) d_Status_addReply_19 rfl ?_
    refine rz_pure (pc' := 21) d_Status_addReply_20 rfl ?_
    refine rz_getiv (v := S.2 3 8) d_Status_addReply_21 f_9_26 rfl rfl rfl ?_
    refine rz_iconst (v := 1) d_Status_addReply_24 (by decide) ?_
    refine rz_iadd d_Status_addReply_25 ?_
    refine rz_puti d_Status_addReply_26 f_9_26 rfl rfl rfl ?_
    exact rz_vretv d_Status_addReply_29 rfl (w.2 b1).2
theorem d_Pattern_copyFrom_0 : decode (rm_code mPattern_copyFrom) 0 = .ok (.aload_n 1, 1) := by decide +kernel
theorem d_Pattern_copyFrom_1 : decode (rm_code mPattern_copyFrom) 1 = .ok (.getfield 9, 3) := by decide +kernel
theorem d_Pattern_copyFrom_4 : decode (rm_code mPattern_copyFrom) 4 = .ok (.iconst 0, 1) := by decide +kernel
theorem d_Pattern_copyFrom_5 : decode (rm_code mPattern_copyFrom) 5 = .ok (.aload_n 0, 1) := by decide +kernel
theorem d_Pattern_copyFrom_6 : decode (rm_code mPattern_copyFrom) 6 = .ok (.getfield 9, 3) := by decide +kernel
theorem d_Pattern_copyFrom_9 : decode (rm_code mPattern_copyFrom) 9 = .ok (.iconst 0, 1) := by decide +kernel
theorem d_Pattern_copyFrom_10 : decode (rm_code mPattern_copyFrom) 10 = .ok (.bipush (10), 2) := by decide +kernel
theorem d_Pattern_copyFrom_12 : decode (rm_code mPattern_copyFrom) 12 = .ok (.invokestatic 29, 3) := by decide +kernel
theorem d_Pattern_copyFrom_15 : decode (rm_code mPattern_copyFrom) 15 = .ok (.aload_n 0, 1) := by decide +kernel
theorem d_Pattern_copyFrom_16 : decode (rm_code mPattern_copyFrom) 16 = .ok (.aload_n 1, 1) := by decide +kernel
theorem d_Pattern_copyFrom_17 : decode (rm_code mPattern_copyFrom) 17 = .ok (.getfield 19, 3) := by decide +kernel
theorem d_Pattern_copyFrom_20 : decode (rm_code mPattern_copyFrom) 20 = .ok (.putfield 19, 3) := by decide +kernel
theorem d_Pattern_copyFrom_23 : decode (rm_code mPattern_copyFrom) 23 = .ok (.return_, 1) := by decide +kernel
theorem p_Pattern_copyFrom_0 {S : rz_S} {K : rz_S → Prop} {a0 : Nat} (ha0 : ptP a0) {a1 : Nat} (ha1 : ptP a1) (w : K (rz_uI (rz_fA S (a0 + 1) (va_cpy (S.1 (a1 + 1)) (S.1 (a0 + 1)) 0 0 10)) a0 1 (S.2 a1 1))) : rz mPattern_copyFrom 0 [(0, .ref a0), (1, .ref a1)] [] S (rz_v K) := by
  refine rz_pure (pc' := 1) d_Pattern_copyFrom_0 rfl ?_
  refine rz_getr d_Pattern_copyFrom_1 f_6_9 (ptT ha1) rfl ?_
  refine rz_iconst (v := 0) d_Pattern_copyFrom_4 (by decide) ?_
  refine rz_pure (pc' := 6) d_Pattern_copyFrom_5 rfl ?_
  refine rz_getr d_Pattern_copyFrom_6 f_6_9 (ptT ha0) rfl ?_
  refine rz_iconst (v := 0) d_Pattern_copyFrom_9 (by decide) ?_
  refine rz_bipush (v := 10) d_Pattern_copyFrom_10 (by decide) ?_
  refine rz_cpyv (F := S.1 (a1 + 1)) (G := S.1 (a0 + 1)) (sp := 0) (dp := 0) (m := 10) d_Pattern_copyFrom_12 rfl (ptR ha1) (ptR ha0) rfl rfl (by decide) (by decide) (by decide) rfl ?_
  refine rz_pure (pc' := 16) d_Pattern_copyFrom_15 rfl ?_
  refine rz_pure (pc' := 17) d_Pattern_copyFrom_16 rfl ?_
  refine rz_getiv (v := S.2 a1 1) d_Pattern_copyFrom_17 f_6_19 (ptT ha1) rfl rfl ?_
  refine rz_puti d_Pattern_copyFrom_20 f_6_19 (ptT ha0) rfl rfl ?_
  exact rz_vretv d_Pattern_copyFrom_23 rfl w
theorem d_BlockMap_pickForDirectory_0 : decode (rm_code mBlockMap_pickForDirectory) 0 = .ok (.aload_n 0, 1) := by decide +kernel
theorem d_BlockMap_pickForDirectory_1 : decode (rm_code mBlockMap_pickForDirectory) 1 = .ok (.bipush (7), 2) := by decide +kernel
theorem d_BlockMap_pickForDirectory_3 : decode (rm_code mBlockMap_pickForDirectory) 3 = .ok (.iconst 0, 1) := by decide +kernel
theorem d_BlockMap_pickForDirectory_4 : decode (rm_code mBlockMap_pickForDirectory) 4 = .ok (.invokevirtual 62, 3) := by decide +kernel
theorem d_BlockMap_pickForDirectory_7 : decode (rm_code mBlockMap_pickForDirectory) 7 = .ok (.ireturn, 1) := by decide +kernel
theorem p_BlockMap_pickForDirectory_0 {S : rz_S} {K : Int32 → rz_S → Prop} (w : rz_ev mBlockMap_pickOf [.ref 44, .int 7, .int 0] S (rz_i (fun xq1 Sq1 => (xq1 = 0 ∨ xq1 = 1) ∧ K xq1 Sq1))) : rz mBlockMap_pickForDirectory 0 [(0, .ref 44)] [] S (rz_i K) := by
  refine rz_pure (pc' := 1) d_BlockMap_pickForDirectory_0 rfl ?_
  refine rz_bipush (v := 7) d_BlockMap_pickForDirectory_1 (by decide) ?_
  refine rz_iconst (v := 0) d_BlockMap_pickForDirectory_3 (by decide) ?_
  refine rz_callVi (t := [.int 0, .int 7]) d_BlockMap_pickForDirectory_4 w_0_62 rfl rfl rfl w (fun xq1 Sq1 q1 => ?_)
  exact rz_ireti d_BlockMap_pickForDirectory_7 rfl (rz_bnok q1.1) q1.2
theorem d_BlockMap_pickOf_0 : decode (rm_code mBlockMap_pickOf) 0 = .ok (.iload_n 1, 1) := by decide +kernel
theorem d_BlockMap_pickOf_1 : decode (rm_code mBlockMap_pickOf) 1 = .ok (.invokestatic 51, 3) := by decide +kernel
theorem d_BlockMap_pickOf_4 : decode (rm_code mBlockMap_pickOf) 4 = .ok (.istore_n 3, 1) := by decide +kernel
theorem d_BlockMap_pickOf_5 : decode (rm_code mBlockMap_pickOf) 5 = .ok (.iload_n 3, 1) := by decide +kernel
theorem d_BlockMap_pickOf_6 : decode (rm_code mBlockMap_pickOf) 6 = .ok (.ifCond .eq (16), 3) := by decide +kernel
theorem d_BlockMap_pickOf_9 : decode (rm_code mBlockMap_pickOf) 9 = .ok (.aload_n 0, 1) := by decide +kernel
theorem d_BlockMap_pickOf_10 : decode (rm_code mBlockMap_pickOf) 10 = .ok (.getfield 9, 3) := by decide +kernel
theorem d_BlockMap_pickOf_13 : decode (rm_code mBlockMap_pickOf) 13 = .ok (.iconst 2, 1) := by decide +kernel
theorem d_BlockMap_pickOf_14 : decode (rm_code mBlockMap_pickOf) 14 = .ok (.iconst 2, 1) := by decide +kernel
theorem d_BlockMap_pickOf_15 : decode (rm_code mBlockMap_pickOf) 15 = .ok (.iload_n 1, 1) := by decide +kernel
theorem d_BlockMap_pickOf_16 : decode (rm_code mBlockMap_pickOf) 16 = .ok (.imul, 1) := by decide +kernel
theorem d_BlockMap_pickOf_17 : decode (rm_code mBlockMap_pickOf) 17 = .ok (.iadd, 1) := by decide +kernel
theorem d_BlockMap_pickOf_18 : decode (rm_code mBlockMap_pickOf) 18 = .ok (.iaload, 1) := by decide +kernel
theorem d_BlockMap_pickOf_19 : decode (rm_code mBlockMap_pickOf) 19 = .ok (.ifCond .ne (5), 3) := by decide +kernel
theorem d_BlockMap_pickOf_22 : decode (rm_code mBlockMap_pickOf) 22 = .ok (.iconst 0, 1) := by decide +kernel
theorem d_BlockMap_pickOf_23 : decode (rm_code mBlockMap_pickOf) 23 = .ok (.ireturn, 1) := by decide +kernel
theorem d_BlockMap_pickOf_24 : decode (rm_code mBlockMap_pickOf) 24 = .ok (.iconst 0, 1) := by decide +kernel
theorem d_BlockMap_pickOf_25 : decode (rm_code mBlockMap_pickOf) 25 = .ok (.istore 4, 2) := by decide +kernel
theorem d_BlockMap_pickOf_27 : decode (rm_code mBlockMap_pickOf) 27 = .ok (.iload 4, 2) := by decide +kernel
theorem d_BlockMap_pickOf_29 : decode (rm_code mBlockMap_pickOf) 29 = .ok (.iload_n 3, 1) := by decide +kernel
theorem d_BlockMap_pickOf_30 : decode (rm_code mBlockMap_pickOf) 30 = .ok (.if_icmp .ge (47), 3) := by decide +kernel
theorem d_BlockMap_pickOf_33 : decode (rm_code mBlockMap_pickOf) 33 = .ok (.iload_n 2, 1) := by decide +kernel
theorem d_BlockMap_pickOf_34 : decode (rm_code mBlockMap_pickOf) 34 = .ok (.iload 4, 2) := by decide +kernel
theorem d_BlockMap_pickOf_36 : decode (rm_code mBlockMap_pickOf) 36 = .ok (.iadd, 1) := by decide +kernel
theorem d_BlockMap_pickOf_37 : decode (rm_code mBlockMap_pickOf) 37 = .ok (.iload_n 3, 1) := by decide +kernel
theorem d_BlockMap_pickOf_38 : decode (rm_code mBlockMap_pickOf) 38 = .ok (.irem, 1) := by decide +kernel
theorem d_BlockMap_pickOf_39 : decode (rm_code mBlockMap_pickOf) 39 = .ok (.istore 5, 2) := by decide +kernel
theorem d_BlockMap_pickOf_41 : decode (rm_code mBlockMap_pickOf) 41 = .ok (.aload_n 0, 1) := by decide +kernel
theorem d_BlockMap_pickOf_42 : decode (rm_code mBlockMap_pickOf) 42 = .ok (.iload_n 1, 1) := by decide +kernel
theorem d_BlockMap_pickOf_43 : decode (rm_code mBlockMap_pickOf) 43 = .ok (.iload 5, 2) := by decide +kernel
theorem d_BlockMap_pickOf_45 : decode (rm_code mBlockMap_pickOf) 45 = .ok (.invokevirtual 69, 3) := by decide +kernel
theorem d_BlockMap_pickOf_48 : decode (rm_code mBlockMap_pickOf) 48 = .ok (.ifCond .eq (23), 3) := by decide +kernel
theorem d_BlockMap_pickOf_51 : decode (rm_code mBlockMap_pickOf) 51 = .ok (.aload_n 0, 1) := by decide +kernel
theorem d_BlockMap_pickOf_52 : decode (rm_code mBlockMap_pickOf) 52 = .ok (.iload_n 1, 1) := by decide +kernel
theorem d_BlockMap_pickOf_53 : decode (rm_code mBlockMap_pickOf) 53 = .ok (.iload 5, 2) := by decide +kernel
theorem d_BlockMap_pickOf_55 : decode (rm_code mBlockMap_pickOf) 55 = .ok (.invokevirtual 35, 3) := by decide +kernel
theorem d_BlockMap_pickOf_58 : decode (rm_code mBlockMap_pickOf) 58 = .ok (.aload_n 0, 1) := by decide +kernel
theorem d_BlockMap_pickOf_59 : decode (rm_code mBlockMap_pickOf) 59 = .ok (.iload_n 1, 1) := by decide +kernel
theorem d_BlockMap_pickOf_60 : decode (rm_code mBlockMap_pickOf) 60 = .ok (.putfield 72, 3) := by decide +kernel
theorem d_BlockMap_pickOf_63 : decode (rm_code mBlockMap_pickOf) 63 = .ok (.aload_n 0, 1) := by decide +kernel
theorem d_BlockMap_pickOf_64 : decode (rm_code mBlockMap_pickOf) 64 = .ok (.iload 5, 2) := by decide +kernel
theorem d_BlockMap_pickOf_66 : decode (rm_code mBlockMap_pickOf) 66 = .ok (.putfield 75, 3) := by decide +kernel
theorem d_BlockMap_pickOf_69 : decode (rm_code mBlockMap_pickOf) 69 = .ok (.iconst 1, 1) := by decide +kernel
theorem d_BlockMap_pickOf_70 : decode (rm_code mBlockMap_pickOf) 70 = .ok (.ireturn, 1) := by decide +kernel
theorem d_BlockMap_pickOf_71 : decode (rm_code mBlockMap_pickOf) 71 = .ok (.iinc 4 (1), 3) := by decide +kernel
theorem d_BlockMap_pickOf_74 : decode (rm_code mBlockMap_pickOf) 74 = .ok (.goto (-47), 3) := by decide +kernel
theorem d_BlockMap_pickOf_77 : decode (rm_code mBlockMap_pickOf) 77 = .ok (.iconst 0, 1) := by decide +kernel
theorem d_BlockMap_pickOf_78 : decode (rm_code mBlockMap_pickOf) 78 = .ok (.ireturn, 1) := by decide +kernel
theorem p_BlockMap_pickOf_0 {S : rz_S} {K : Int32 → rz_S → Prop} {a1 : Int32} {a2 : Int32} (w : rz_ev mDisk_sectorsOf [.int a1] S (rz_i (fun xq1 Sq1 => ((xq1 = 0 → K 0 Sq1) ∧ (¬ xq1 = 0 → rx_in (2 + (2 * a1)) 64 = true ∧ ((Sq1.1 45 ((2 + (2 * a1)).toNatClampNeg) = 0 → K 0 Sq1) ∧ (¬ Sq1.1 45 ((2 + (2 * a1)).toNatClampNeg) = 0 → rz mBlockMap_pickOf 27 [(0, .ref 44), (1, .int a1), (2, .int a2), (3, .int xq1), (4, .int 0)] [] Sq1 (rz_i K)))))))) : rz mBlockMap_pickOf 0 [(0, .ref 44), (1, .int a1), (2, .int a2)] [] S (rz_i K) := by
  refine rz_pure (pc' := 1) d_BlockMap_pickOf_0 rfl ?_
  refine rz_callSi (t := [.int a1]) d_BlockMap_pickOf_1 rfl w_0_51 rfl rfl w (fun xq1 Sq1 q1 => ?_)
  refine rz_pure (pc' := 5) (l' := [(3, .int xq1), (0, .ref 44), (1, .int a1), (2, .int a2)]) d_BlockMap_pickOf_4 rfl ?_
  refine rz_pure (pc' := 6) d_BlockMap_pickOf_5 rfl ?_
  refine rz_ifeq (tgt := 22) d_BlockMap_pickOf_6 rfl (fun b2 => ?_) (fun b2 => ?_)
  · skip
    refine rz_iconst (v := 0) d_BlockMap_pickOf_22 (by decide) ?_
    exact rz_ireti d_BlockMap_pickOf_23 rfl (by decide) (q1.1 b2)
  · skip
    refine rz_pure (pc' := 10) d_BlockMap_pickOf_9 rfl ?_
    refine rz_getr d_BlockMap_pickOf_10 f_0_9 rfl rfl ?_
    refine rz_iconst (v := 2) d_BlockMap_pickOf_13 (by decide) ?_
    refine rz_iconst (v := 2) d_BlockMap_pickOf_14 (by decide) ?_
    refine rz_pure (pc' := 16) d_BlockMap_pickOf_15 rfl ?_
    refine rz_imul d_BlockMap_pickOf_16 ?_
    refine rz_iadd d_BlockMap_pickOf_17 ?_
    refine rz_ialdv (F := Sq1.1 45) (i := (2 + (2 * a1)).toNatClampNeg) d_BlockMap_pickOf_18 rfl (q1.2 b2).1 rfl rfl ?_
    refine rz_ifne (tgt := 24) d_BlockMap_pickOf_19 rfl (fun b3 => ?_) (fun b3 => ?_)
    · skip
      refine rz_iconst (v := 0) d_BlockMap_pickOf_24 (by decide) ?_
      refine rz_pure (pc' := 27) (l' := [(4, .int 0), (3, .int xq1), (0, .ref 44), (1, .int a1), (2, .int a2)]) d_BlockMap_pickOf_25 rfl ?_
      exact rz_pick (ks := [0, 1, 2, 3, 4]) (l := [(0, .ref 44), (1, .int a1), (2, .int a2), (3, .int xq1), (4, .int 0)]) rfl rfl (by decide) rfl ((q1.2 b2).2.2 b3)
    · skip
      refine rz_iconst (v := 0) d_BlockMap_pickOf_22 (by decide) ?_
      exact rz_ireti d_BlockMap_pickOf_23 rfl (by decide) ((q1.2 b2).2.1 b3)
theorem p_BlockMap_pickOf_27 {S : rz_S} {K : Int32 → rz_S → Prop} {a1 : Int32} {a2 : Int32} {a3 : Int32} {a4 : Int32} (w : ((a3 ≤ a4 → K 0 S) ∧ (¬ a3 ≤ a4 → (¬ a3 = 0) ∧ rz_ev mBlockMap_isFree [.ref 44, .int a1, .int ((a2 + a4) - (a2 + a4) / a3 * a3)] S (rz_i (fun xq2 Sq2 => ((xq2 = 0 → rz mBlockMap_pickOf 27 [(0, .ref 44), (1, .int a1), (2, .int a2), (3, .int a3), (4, .int (a4 + 1))] [] Sq2 (rz_i K)) ∧ (¬ xq2 = 0 → rz_ev mBlockMap_takeBlock [.ref 44, .int a1, .int ((a2 + a4) - (a2 + a4) / a3 * a3)] Sq2 (rz_v (fun Sq4 => K 1 (rz_uI (rz_uI Sq4 44 1 a1) 44 2 ((a2 + a4) - (a2 + a4) / a3 * a3))))))))))) : rz mBlockMap_pickOf 27 [(0, .ref 44), (1, .int a1), (2, .int a2), (3, .int a3), (4, .int a4)] [] S (rz_i K) := by
  refine rz_pure (pc' := 29) d_BlockMap_pickOf_27 rfl ?_
  refine rz_pure (pc' := 30) d_BlockMap_pickOf_29 rfl ?_
  refine rz_icmpge (tgt := 77) d_BlockMap_pickOf_30 rfl (fun b1 => ?_) (fun b1 => ?_)
  · skip
    refine rz_iconst (v := 0) d_BlockMap_pickOf_77 (by decide) ?_
    exact rz_ireti d_BlockMap_pickOf_78 rfl (by decide) (w.1 b1)
  · skip
    refine rz_pure (pc' := 34) d_BlockMap_pickOf_33 rfl ?_
    refine rz_pure (pc' := 36) d_BlockMap_pickOf_34 rfl ?_
    refine rz_iadd d_BlockMap_pickOf_36 ?_
    refine rz_pure (pc' := 38) d_BlockMap_pickOf_37 rfl ?_
    refine rz_irem d_BlockMap_pickOf_38 (w.2 b1).1 ?_
    refine rz_pure (pc' := 41) (l' := [(5, .int ((a2 + a4) - (a2 + a4) / a3 * a3)), (0, .ref 44), (1, .int a1), (2, .int a2), (3, .int a3), (4, .int a4)]) d_BlockMap_pickOf_39 rfl ?_
    refine rz_pure (pc' := 42) d_BlockMap_pickOf_41 rfl ?_
    refine rz_pure (pc' := 43) d_BlockMap_pickOf_42 rfl ?_
    refine rz_pure (pc' := 45) d_BlockMap_pickOf_43 rfl ?_
    refine rz_callVi (t := [.int ((a2 + a4) - (a2 + a4) / a3 * a3), .int a1]) d_BlockMap_pickOf_45 w_0_69 rfl rfl rfl (w.2 b1).2 (fun xq2 Sq2 q2 => ?_)
    refine rz_ifeq (tgt := 71) d_BlockMap_pickOf_48 rfl (fun b3 => ?_) (fun b3 => ?_)
    · skip
      refine rz_pure (pc' := 74) (l' := [(4, .int (a4 + 1)), (5, .int ((a2 + a4) - (a2 + a4) / a3 * a3)), (0, .ref 44), (1, .int a1), (2, .int a2), (3, .int a3)]) d_BlockMap_pickOf_71 rfl ?_
      refine rz_pure (pc' := 27) d_BlockMap_pickOf_74 rfl ?_
      exact rz_pick (ks := [0, 1, 2, 3, 4]) (l := [(0, .ref 44), (1, .int a1), (2, .int a2), (3, .int a3), (4, .int (a4 + 1))]) rfl rfl (by decide) rfl (q2.1 b3)
    · skip
      refine rz_pure (pc' := 52) d_BlockMap_pickOf_51 rfl ?_
      refine rz_pure (pc' := 53) d_BlockMap_pickOf_52 rfl ?_
      refine rz_pure (pc' := 55) d_BlockMap_pickOf_53 rfl ?_
      refine rz_callVv (t := [.int ((a2 + a4) - (a2 + a4) / a3 * a3), .int a1]) d_BlockMap_pickOf_55 w_0_35 rfl rfl rfl (q2.2 b3) (fun Sq4 q4 => ?_)
      refine rz_pure (pc' := 59) d_BlockMap_pickOf_58 rfl ?_
      refine rz_pure (pc' := 60) d_BlockMap_pickOf_59 rfl ?_
      refine rz_puti d_BlockMap_pickOf_60 f_0_72 rfl rfl rfl ?_
      refine rz_pure (pc' := 64) d_BlockMap_pickOf_63 rfl ?_
      refine rz_pure (pc' := 66) d_BlockMap_pickOf_64 rfl ?_
      refine rz_puti d_BlockMap_pickOf_66 f_0_75 rfl rfl rfl ?_
      refine rz_iconst (v := 1) d_BlockMap_pickOf_69 (by decide) ?_
      exact rz_ireti d_BlockMap_pickOf_70 rfl (by decide) q4
theorem d_BlockMap_pick_0 : decode (rm_code mBlockMap_pick) 0 = .ok (.iconst 0, 1) := by decide +kernel
theorem d_BlockMap_pick_1 : decode (rm_code mBlockMap_pick) 1 = .ok (.istore_n 1, 1) := by decide +kernel
theorem d_BlockMap_pick_2 : decode (rm_code mBlockMap_pick) 2 = .ok (.iload_n 1, 1) := by decide +kernel
theorem d_BlockMap_pick_3 : decode (rm_code mBlockMap_pick) 3 = .ok (.getstatic 55, 3) := by decide +kernel
theorem d_BlockMap_pick_6 : decode (rm_code mBlockMap_pick) 6 = .ok (.arraylength, 1) := by decide +kernel
theorem d_BlockMap_pick_7 : decode (rm_code mBlockMap_pick) 7 = .ok (.if_icmp .ge (24), 3) := by decide +kernel
theorem d_BlockMap_pick_10 : decode (rm_code mBlockMap_pick) 10 = .ok (.aload_n 0, 1) := by decide +kernel
theorem d_BlockMap_pick_11 : decode (rm_code mBlockMap_pick) 11 = .ok (.getstatic 55, 3) := by decide +kernel
theorem d_BlockMap_pick_14 : decode (rm_code mBlockMap_pick) 14 = .ok (.iload_n 1, 1) := by decide +kernel
theorem d_BlockMap_pick_15 : decode (rm_code mBlockMap_pick) 15 = .ok (.iaload, 1) := by decide +kernel
theorem d_BlockMap_pick_16 : decode (rm_code mBlockMap_pick) 16 = .ok (.iconst 0, 1) := by decide +kernel
theorem d_BlockMap_pick_17 : decode (rm_code mBlockMap_pick) 17 = .ok (.invokevirtual 62, 3) := by decide +kernel
theorem d_BlockMap_pick_20 : decode (rm_code mBlockMap_pick) 20 = .ok (.ifCond .eq (5), 3) := by decide +kernel
theorem d_BlockMap_pick_23 : decode (rm_code mBlockMap_pick) 23 = .ok (.iconst 1, 1) := by decide +kernel
theorem d_BlockMap_pick_24 : decode (rm_code mBlockMap_pick) 24 = .ok (.ireturn, 1) := by decide +kernel
theorem d_BlockMap_pick_25 : decode (rm_code mBlockMap_pick) 25 = .ok (.iinc 1 (1), 3) := by decide +kernel
theorem d_BlockMap_pick_28 : decode (rm_code mBlockMap_pick) 28 = .ok (.goto (-26), 3) := by decide +kernel
theorem d_BlockMap_pick_31 : decode (rm_code mBlockMap_pick) 31 = .ok (.iconst 0, 1) := by decide +kernel
theorem d_BlockMap_pick_32 : decode (rm_code mBlockMap_pick) 32 = .ok (.ireturn, 1) := by decide +kernel
theorem p_BlockMap_pick_0 {S : rz_S} {K : Int32 → rz_S → Prop} (w : rz mBlockMap_pick 2 [(0, .ref 44), (1, .int 0)] [] S (rz_i K)) : rz mBlockMap_pick 0 [(0, .ref 44)] [] S (rz_i K) := by
  refine rz_iconst (v := 0) d_BlockMap_pick_0 (by decide) ?_
  refine rz_pure (pc' := 2) (l' := [(1, .int 0), (0, .ref 44)]) d_BlockMap_pick_1 rfl ?_
  exact rz_pick (ks := [0, 1]) (l := [(0, .ref 44), (1, .int 0)]) rfl rfl (by decide) rfl w
theorem p_BlockMap_pick_2 {S : rz_S} {K : Int32 → rz_S → Prop} {a1 : Int32} (w : ((11 ≤ a1 → K 0 S) ∧ (¬ 11 ≤ a1 → rx_in a1 11 = true ∧ rz_ev mBlockMap_pickOf [.ref 44, .int (sa_v 7 a1.toNatClampNeg), .int 0] S (rz_i (fun xq2 Sq2 => ((xq2 = 0 → rz mBlockMap_pick 2 [(0, .ref 44), (1, .int (a1 + 1))] [] Sq2 (rz_i K)) ∧ (¬ xq2 = 0 → K 1 Sq2))))))) : rz mBlockMap_pick 2 [(0, .ref 44), (1, .int a1)] [] S (rz_i K) := by
  refine rz_pure (pc' := 3) d_BlockMap_pick_2 rfl ?_
  refine rz_stat (v := .ref 3000007) d_BlockMap_pick_3 rfl ?_
  refine rz_stalen (j := 7) (n := 11) d_BlockMap_pick_6 rfl rfl rfl ?_
  refine rz_icmpge (tgt := 31) d_BlockMap_pick_7 rfl (fun b1 => ?_) (fun b1 => ?_)
  · skip
    refine rz_iconst (v := 0) d_BlockMap_pick_31 (by decide) ?_
    exact rz_ireti d_BlockMap_pick_32 rfl (by decide) (w.1 b1)
  · skip
    refine rz_pure (pc' := 11) d_BlockMap_pick_10 rfl ?_
    refine rz_stat (v := .ref 3000007) d_BlockMap_pick_11 rfl ?_
    refine rz_pure (pc' := 15) d_BlockMap_pick_14 rfl ?_
    refine rz_staldv (j := 7) (n := 11) (i := a1.toNatClampNeg) d_BlockMap_pick_15 rfl rfl rfl (w.2 b1).1 rfl ?_
    refine rz_iconst (v := 0) d_BlockMap_pick_16 (by decide) ?_
    refine rz_callVi (t := [.int 0, .int (sa_v 7 a1.toNatClampNeg)]) d_BlockMap_pick_17 w_0_62 rfl rfl rfl (w.2 b1).2 (fun xq2 Sq2 q2 => ?_)
    refine rz_ifeq (tgt := 25) d_BlockMap_pick_20 rfl (fun b3 => ?_) (fun b3 => ?_)
    · skip
      refine rz_pure (pc' := 28) (l' := [(1, .int (a1 + 1)), (0, .ref 44)]) d_BlockMap_pick_25 rfl ?_
      refine rz_pure (pc' := 2) d_BlockMap_pick_28 rfl ?_
      exact rz_pick (ks := [0, 1]) (l := [(0, .ref 44), (1, .int (a1 + 1))]) rfl rfl (by decide) rfl (q2.1 b3)
    · skip
      refine rz_iconst (v := 1) d_BlockMap_pick_23 (by decide) ?_
      exact rz_ireti d_BlockMap_pick_24 rfl (by decide) (q2.2 b3)
theorem d_BlockMap_pickBehind_0 : decode (rm_code mBlockMap_pickBehind) 0 = .ok (.iload_n 1, 1) := by decide +kernel
theorem d_BlockMap_pickBehind_1 : decode (rm_code mBlockMap_pickBehind) 1 = .ok (.bipush (7), 2) := by decide +kernel
theorem d_BlockMap_pickBehind_3 : decode (rm_code mBlockMap_pickBehind) 3 = .ok (.if_icmp .eq (14), 3) := by decide +kernel
theorem d_BlockMap_pickBehind_6 : decode (rm_code mBlockMap_pickBehind) 6 = .ok (.aload_n 0, 1) := by decide +kernel
theorem d_BlockMap_pickBehind_7 : decode (rm_code mBlockMap_pickBehind) 7 = .ok (.iload_n 1, 1) := by decide +kernel
theorem d_BlockMap_pickBehind_8 : decode (rm_code mBlockMap_pickBehind) 8 = .ok (.iload_n 2, 1) := by decide +kernel
theorem d_BlockMap_pickBehind_9 : decode (rm_code mBlockMap_pickBehind) 9 = .ok (.iconst 3, 1) := by decide +kernel
theorem d_BlockMap_pickBehind_10 : decode (rm_code mBlockMap_pickBehind) 10 = .ok (.iadd, 1) := by decide +kernel
theorem d_BlockMap_pickBehind_11 : decode (rm_code mBlockMap_pickBehind) 11 = .ok (.invokevirtual 62, 3) := by decide +kernel
theorem d_BlockMap_pickBehind_14 : decode (rm_code mBlockMap_pickBehind) 14 = .ok (.ifCond .ne (10), 3) := by decide +kernel
theorem d_BlockMap_pickBehind_17 : decode (rm_code mBlockMap_pickBehind) 17 = .ok (.aload_n 0, 1) := by decide +kernel
theorem d_BlockMap_pickBehind_18 : decode (rm_code mBlockMap_pickBehind) 18 = .ok (.invokevirtual 65, 3) := by decide +kernel
theorem d_BlockMap_pickBehind_21 : decode (rm_code mBlockMap_pickBehind) 21 = .ok (.ifCond .eq (7), 3) := by decide +kernel
theorem d_BlockMap_pickBehind_24 : decode (rm_code mBlockMap_pickBehind) 24 = .ok (.iconst 1, 1) := by decide +kernel
theorem d_BlockMap_pickBehind_25 : decode (rm_code mBlockMap_pickBehind) 25 = .ok (.goto (4), 3) := by decide +kernel
theorem d_BlockMap_pickBehind_28 : decode (rm_code mBlockMap_pickBehind) 28 = .ok (.iconst 0, 1) := by decide +kernel
theorem d_BlockMap_pickBehind_29 : decode (rm_code mBlockMap_pickBehind) 29 = .ok (.ireturn, 1) := by decide +kernel
theorem p_BlockMap_pickBehind_0 {S : rz_S} {K : Int32 → rz_S → Prop} {a1 : Int32} {a2 : Int32} (w : ((a1 = 7 → rz mBlockMap_pickBehind 17 [(0, .ref 44)] [] S (rz_i K)) ∧ (¬ a1 = 7 → rz_ev mBlockMap_pickOf [.ref 44, .int a1, .int (a2 + 3)] S (rz_i (fun xq2 Sq2 => ((xq2 = 0 → rz mBlockMap_pickBehind 17 [(0, .ref 44)] [] Sq2 (rz_i K)) ∧ (¬ xq2 = 0 → K 1 Sq2))))))) : rz mBlockMap_pickBehind 0 [(0, .ref 44), (1, .int a1), (2, .int a2)] [] S (rz_i K) := by
  refine rz_pure (pc' := 1) d_BlockMap_pickBehind_0 rfl ?_
  refine rz_bipush (v := 7) d_BlockMap_pickBehind_1 (by decide) ?_
  refine rz_icmpeq (tgt := 17) d_BlockMap_pickBehind_3 rfl (fun b1 => ?_) (fun b1 => ?_)
  · skip
    exact rz_pick (ks := [0]) (l := [(0, .ref 44)]) rfl rfl (by decide) rfl (w.1 b1)
  · skip
    refine rz_pure (pc' := 7) d_BlockMap_pickBehind_6 rfl ?_
    refine rz_pure (pc' := 8) d_BlockMap_pickBehind_7 rfl ?_
    refine rz_pure (pc' := 9) d_BlockMap_pickBehind_8 rfl ?_
    refine rz_iconst (v := 3) d_BlockMap_pickBehind_9 (by decide) ?_
    refine rz_iadd d_BlockMap_pickBehind_10 ?_
    refine rz_callVi (t := [.int (a2 + 3), .int a1]) d_BlockMap_pickBehind_11 w_0_62 rfl rfl rfl (w.2 b1) (fun xq2 Sq2 q2 => ?_)
    refine rz_ifne (tgt := 24) d_BlockMap_pickBehind_14 rfl (fun b3 => ?_) (fun b3 => ?_)
    · skip
      refine rz_iconst (v := 1) d_BlockMap_pickBehind_24 (by decide) ?_
      refine rz_pure (pc' := 29) d_BlockMap_pickBehind_25 rfl ?_
      exact rz_ireti d_BlockMap_pickBehind_29 rfl (by decide) (q2.2 b3)
    · skip
      exact rz_pick (ks := [0]) (l := [(0, .ref 44)]) rfl rfl (by decide) rfl (q2.1 b3)
theorem p_BlockMap_pickBehind_17 {S : rz_S} {K : Int32 → rz_S → Prop} (w : rz_ev mBlockMap_pick [.ref 44] S (rz_i (fun xq1 Sq1 => ((xq1 = 0 → K 0 Sq1) ∧ (¬ xq1 = 0 → K 1 Sq1))))) : rz mBlockMap_pickBehind 17 [(0, .ref 44)] [] S (rz_i K) := by
  refine rz_pure (pc' := 18) d_BlockMap_pickBehind_17 rfl ?_
  refine rz_callVi (t := []) d_BlockMap_pickBehind_18 w_0_65 rfl rfl rfl w (fun xq1 Sq1 q1 => ?_)
  refine rz_ifeq (tgt := 28) d_BlockMap_pickBehind_21 rfl (fun b2 => ?_) (fun b2 => ?_)
  · skip
    refine rz_iconst (v := 0) d_BlockMap_pickBehind_28 (by decide) ?_
    exact rz_ireti d_BlockMap_pickBehind_29 rfl (by decide) (q1.1 b2)
  · skip
    refine rz_iconst (v := 1) d_BlockMap_pickBehind_24 (by decide) ?_
    refine rz_pure (pc' := 29) d_BlockMap_pickBehind_25 rfl ?_
    exact rz_ireti d_BlockMap_pickBehind_29 rfl (by decide) (q1.2 b2)
theorem d_Status_receive_0 : decode (rm_code mStatus_receive) 0 = .ok (.iconst 0, 1) := by decide +kernel
theorem d_Status_receive_1 : decode (rm_code mStatus_receive) 1 = .ok (.istore_n 3, 1) := by decide +kernel
theorem d_Status_receive_2 : decode (rm_code mStatus_receive) 2 = .ok (.aload_n 0, 1) := by decide +kernel
theorem d_Status_receive_3 : decode (rm_code mStatus_receive) 3 = .ok (.iconst 0, 1) := by decide +kernel
theorem d_Status_receive_4 : decode (rm_code mStatus_receive) 4 = .ok (.putfield 44, 3) := by decide +kernel
theorem d_Status_receive_7 : decode (rm_code mStatus_receive) 7 = .ok (.iload_n 3, 1) := by decide +kernel
theorem d_Status_receive_8 : decode (rm_code mStatus_receive) 8 = .ok (.iload_n 1, 1) := by decide +kernel
theorem d_Status_receive_9 : decode (rm_code mStatus_receive) 9 = .ok (.if_icmp .ge (47), 3) := by decide +kernel
theorem d_Status_receive_12 : decode (rm_code mStatus_receive) 12 = .ok (.iload_n 3, 1) := by decide +kernel
theorem d_Status_receive_13 : decode (rm_code mStatus_receive) 13 = .ok (.aload_n 2, 1) := by decide +kernel
theorem d_Status_receive_14 : decode (rm_code mStatus_receive) 14 = .ok (.arraylength, 1) := by decide +kernel
theorem d_Status_receive_15 : decode (rm_code mStatus_receive) 15 = .ok (.if_icmp .ge (41), 3) := by decide +kernel
theorem d_Status_receive_18 : decode (rm_code mStatus_receive) 18 = .ok (.aload_n 0, 1) := by decide +kernel
theorem d_Status_receive_19 : decode (rm_code mStatus_receive) 19 = .ok (.getfield 44, 3) := by decide +kernel
theorem d_Status_receive_22 : decode (rm_code mStatus_receive) 22 = .ok (.ifCond .ne (34), 3) := by decide +kernel
theorem d_Status_receive_25 : decode (rm_code mStatus_receive) 25 = .ok (.aload_n 2, 1) := by decide +kernel
theorem d_Status_receive_26 : decode (rm_code mStatus_receive) 26 = .ok (.iload_n 3, 1) := by decide +kernel
theorem d_Status_receive_27 : decode (rm_code mStatus_receive) 27 = .ok (.aload_n 0, 1) := by decide +kernel
theorem d_Status_receive_28 : decode (rm_code mStatus_receive) 28 = .ok (.getfield 29, 3) := by decide +kernel
theorem d_Status_receive_31 : decode (rm_code mStatus_receive) 31 = .ok (.aload_n 0, 1) := by decide +kernel
theorem d_Status_receive_32 : decode (rm_code mStatus_receive) 32 = .ok (.getfield 26, 3) := by decide +kernel
theorem d_Status_receive_35 : decode (rm_code mStatus_receive) 35 = .ok (.if_icmp .ge (10), 3) := by decide +kernel
theorem d_Status_receive_38 : decode (rm_code mStatus_receive) 38 = .ok (.aload_n 0, 1) := by decide +kernel
theorem d_Status_receive_39 : decode (rm_code mStatus_receive) 39 = .ok (.invokevirtual 48, 3) := by decide +kernel
theorem d_Status_receive_42 : decode (rm_code mStatus_receive) 42 = .ok (.goto (7), 3) := by decide +kernel
theorem d_Status_receive_45 : decode (rm_code mStatus_receive) 45 = .ok (.aload_n 0, 1) := by decide +kernel
theorem d_Status_receive_46 : decode (rm_code mStatus_receive) 46 = .ok (.invokevirtual 52, 3) := by decide +kernel
theorem d_Status_receive_49 : decode (rm_code mStatus_receive) 49 = .ok (.iastore, 1) := by decide +kernel
theorem d_Status_receive_50 : decode (rm_code mStatus_receive) 50 = .ok (.iinc 3 (1), 3) := by decide +kernel
theorem d_Status_receive_53 : decode (rm_code mStatus_receive) 53 = .ok (.goto (-46), 3) := by decide +kernel
theorem d_Status_receive_56 : decode (rm_code mStatus_receive) 56 = .ok (.iload_n 3, 1) := by decide +kernel
theorem d_Status_receive_57 : decode (rm_code mStatus_receive) 57 = .ok (.ireturn, 1) := by decide +kernel
theorem p_Status_receive_0 {S : rz_S} {K : Int32 → rz_S → Prop} {a1 : Int32} {a2 na2 : Nat} (ha2 : rz_T[a2]? = some (.inl (0, na2))) (w : rz mStatus_receive 7 [(0, .ref 3), (1, .int a1), (2, .ref a2), (3, .int 0)] [] (rz_uI S 3 3 0) (rz_i K)) : rz mStatus_receive 0 [(0, .ref 3), (1, .int a1), (2, .ref a2)] [] S (rz_i K) := by
  refine rz_iconst (v := 0) d_Status_receive_0 (by decide) ?_
  refine rz_pure (pc' := 2) (l' := [(3, .int 0), (0, .ref 3), (1, .int a1), (2, .ref a2)]) d_Status_receive_1 rfl ?_
  refine rz_pure (pc' := 3) d_Status_receive_2 rfl ?_
  refine rz_iconst (v := 0) d_Status_receive_3 (by decide) ?_
  refine rz_puti d_Status_receive_4 f_9_44 rfl rfl (by decide) ?_
  exact rz_pick (ks := [0, 1, 2, 3]) (l := [(0, .ref 3), (1, .int a1), (2, .ref a2), (3, .int 0)]) rfl rfl (by decide) rfl w
theorem p_Status_receive_7 {S : rz_S} {K : Int32 → rz_S → Prop} {a1 : Int32} {a2 na2 : Nat} (ha2 : rz_T[a2]? = some (.inl (0, na2))) {a3 : Int32} (w : ((a1 ≤ a3 → K a3 S) ∧ (¬ a1 ≤ a3 → ((Int32.ofNat na2 ≤ a3 → K a3 S) ∧ (¬ Int32.ofNat na2 ≤ a3 → ((S.2 3 3 = 0 → ((S.2 3 8 ≤ S.2 3 9 → rz_ev mStatus_textByte [.ref 3] S (rz_i (fun xq5 Sq5 => rx_in a3 na2 = true ∧ rz mStatus_receive 7 [(0, .ref 3), (1, .int a1), (2, .ref a2), (3, .int (a3 + 1))] [] (rz_fA Sq5 a2 (upd (Sq5.1 a2) a3.toNatClampNeg xq5)) (rz_i K)))) ∧ (¬ S.2 3 8 ≤ S.2 3 9 → rz_ev mStatus_replyByte [.ref 3] S (rz_i (fun xq6 Sq6 => rx_in a3 na2 = true ∧ rz mStatus_receive 7 [(0, .ref 3), (1, .int a1), (2, .ref a2), (3, .int (a3 + 1))] [] (rz_fA Sq6 a2 (upd (Sq6.1 a2) a3.toNatClampNeg xq6)) (rz_i K)))))) ∧ (¬ S.2 3 3 = 0 → K a3 S))))))) : rz mStatus_receive 7 [(0, .ref 3), (1, .int a1), (2, .ref a2), (3, .int a3)] [] S (rz_i K) := by
  refine rz_pure (pc' := 8) d_Status_receive_7 rfl ?_
  refine rz_pure (pc' := 9) d_Status_receive_8 rfl ?_
  refine rz_icmpge (tgt := 56) d_Status_receive_9 rfl (fun b1 => ?_) (fun b1 => ?_)
  · skip
    refine rz_pure (pc' := 57) d_Status_receive_56 rfl ?_
    exact rz_ireti d_Status_receive_57 rfl rfl (w.1 b1)
  · skip
    refine rz_pure (pc' := 13) d_Status_receive_12 rfl ?_
    refine rz_pure (pc' := 14) d_Status_receive_13 rfl ?_
    refine rz_alenv (v := Int32.ofNat na2) d_Status_receive_14 (ha2) (by decide) rfl ?_
    refine rz_icmpge (tgt := 56) d_Status_receive_15 rfl (fun b2 => ?_) (fun b2 => ?_)
    · skip
      refine rz_pure (pc' := 57) d_Status_receive_56 rfl ?_
      exact rz_ireti d_Status_receive_57 rfl rfl ((w.2 b1).1 b2)
    · skip
      refine rz_pure (pc' := 19) d_Status_receive_18 rfl ?_
      refine rz_getiv (v := S.2 3 3) d_Status_receive_19 f_9_44 rfl rfl rfl ?_
      refine rz_ifne (tgt := 56) d_Status_receive_22 rfl (fun b3 => ?_) (fun b3 => ?_)
      · skip
        refine rz_pure (pc' := 57) d_Status_receive_56 rfl ?_
        exact rz_ireti d_Status_receive_57 rfl rfl (((w.2 b1).2 b2).2 b3)
      · skip
        refine rz_pure (pc' := 26) d_Status_receive_25 rfl ?_
        refine rz_pure (pc' := 27) d_Status_receive_26 rfl ?_
        refine rz_pure (pc' := 28) d_Status_receive_27 rfl ?_
        refine rz_getiv (v := S.2 3 9) d_Status_receive_28 f_9_29 rfl rfl rfl ?_
        refine rz_pure (pc' := 32) d_Status_receive_31 rfl ?_
        refine rz_getiv (v := S.2 3 8) d_Status_receive_32 f_9_26 rfl rfl rfl ?_
        refine rz_icmpge (tgt := 45) d_Status_receive_35 rfl (fun b4 => ?_) (fun b4 => ?_)
        · skip
          refine rz_pure (pc' := 46) d_Status_receive_45 rfl ?_
          refine rz_callVi (t := []) d_Status_receive_46 w_9_52 rfl rfl rfl ((((w.2 b1).2 b2).1 b3).1 b4) (fun xq5 Sq5 q5 => ?_)
          refine rz_iastv (F := Sq5.1 a2) (i := a3.toNatClampNeg) d_Status_receive_49 (ha2) q5.1 rfl rfl ?_
          refine rz_pure (pc' := 53) (l' := [(3, .int (a3 + 1)), (0, .ref 3), (1, .int a1), (2, .ref a2)]) d_Status_receive_50 rfl ?_
          refine rz_pure (pc' := 7) d_Status_receive_53 rfl ?_
          exact rz_pick (ks := [0, 1, 2, 3]) (l := [(0, .ref 3), (1, .int a1), (2, .ref a2), (3, .int (a3 + 1))]) rfl rfl (by decide) rfl q5.2
        · skip
          refine rz_pure (pc' := 39) d_Status_receive_38 rfl ?_
          refine rz_callVi (t := []) d_Status_receive_39 w_9_48 rfl rfl rfl ((((w.2 b1).2 b2).1 b3).2 b4) (fun xq6 Sq6 q6 => ?_)
          refine rz_pure (pc' := 49) d_Status_receive_42 rfl ?_
          refine rz_iastv (F := Sq6.1 a2) (i := a3.toNatClampNeg) d_Status_receive_49 (ha2) q6.1 rfl rfl ?_
          refine rz_pure (pc' := 53) (l' := [(3, .int (a3 + 1)), (0, .ref 3), (1, .int a1), (2, .ref a2)]) d_Status_receive_50 rfl ?_
          refine rz_pure (pc' := 7) d_Status_receive_53 rfl ?_
          exact rz_pick (ks := [0, 1, 2, 3]) (l := [(0, .ref 3), (1, .int a1), (2, .ref a2), (3, .int (a3 + 1))]) rfl rfl (by decide) rfl q6.2
theorem d_Status_replyByte_0 : decode (rm_code mStatus_replyByte) 0 = .ok (.aload_n 0, 1) := by decide +kernel
theorem d_Status_replyByte_1 : decode (rm_code mStatus_replyByte) 1 = .ok (.getfield 29, 3) := by decide +kernel
theorem d_Status_replyByte_4 : decode (rm_code mStatus_replyByte) 4 = .ok (.bipush (32), 2) := by decide +kernel
theorem d_Status_replyByte_6 : decode (rm_code mStatus_replyByte) 6 = .ok (.if_icmp .ge (15), 3) := by decide +kernel
theorem d_Status_replyByte_9 : decode (rm_code mStatus_replyByte) 9 = .ok (.aload_n 0, 1) := by decide +kernel
theorem d_Status_replyByte_10 : decode (rm_code mStatus_replyByte) 10 = .ok (.getfield 19, 3) := by decide +kernel
theorem d_Status_replyByte_13 : decode (rm_code mStatus_replyByte) 13 = .ok (.aload_n 0, 1) := by decide +kernel
theorem d_Status_replyByte_14 : decode (rm_code mStatus_replyByte) 14 = .ok (.getfield 29, 3) := by decide +kernel
theorem d_Status_replyByte_17 : decode (rm_code mStatus_replyByte) 17 = .ok (.iaload, 1) := by decide +kernel
theorem d_Status_replyByte_18 : decode (rm_code mStatus_replyByte) 18 = .ok (.goto (4), 3) := by decide +kernel
theorem d_Status_replyByte_21 : decode (rm_code mStatus_replyByte) 21 = .ok (.iconst 0, 1) := by decide +kernel
theorem d_Status_replyByte_22 : decode (rm_code mStatus_replyByte) 22 = .ok (.istore_n 1, 1) := by decide +kernel
theorem d_Status_replyByte_23 : decode (rm_code mStatus_replyByte) 23 = .ok (.aload_n 0, 1) := by decide +kernel
theorem d_Status_replyByte_24 : decode (rm_code mStatus_replyByte) 24 = .ok (.dup, 1) := by decide +kernel
theorem d_Status_replyByte_25 : decode (rm_code mStatus_replyByte) 25 = .ok (.getfield 29, 3) := by decide +kernel
theorem d_Status_replyByte_28 : decode (rm_code mStatus_replyByte) 28 = .ok (.iconst 1, 1) := by decide +kernel
theorem d_Status_replyByte_29 : decode (rm_code mStatus_replyByte) 29 = .ok (.iadd, 1) := by decide +kernel
theorem d_Status_replyByte_30 : decode (rm_code mStatus_replyByte) 30 = .ok (.putfield 29, 3) := by decide +kernel
theorem d_Status_replyByte_33 : decode (rm_code mStatus_replyByte) 33 = .ok (.aload_n 0, 1) := by decide +kernel
theorem d_Status_replyByte_34 : decode (rm_code mStatus_replyByte) 34 = .ok (.aload_n 0, 1) := by decide +kernel
theorem d_Status_replyByte_35 : decode (rm_code mStatus_replyByte) 35 = .ok (.getfield 29, 3) := by decide +kernel
theorem d_Status_replyByte_38 : decode (rm_code mStatus_replyByte) 38 = .ok (.aload_n 0, 1) := by decide +kernel
theorem d_Status_replyByte_39 : decode (rm_code mStatus_replyByte) 39 = .ok (.getfield 26, 3) := by decide +kernel
theorem d_Status_replyByte_42 : decode (rm_code mStatus_replyByte) 42 = .ok (.if_icmp .lt (7), 3) := by decide +kernel
theorem d_Status_replyByte_45 : decode (rm_code mStatus_replyByte) 45 = .ok (.iconst 1, 1) := by decide +kernel
theorem d_Status_replyByte_46 : decode (rm_code mStatus_replyByte) 46 = .ok (.goto (4), 3) := by decide +kernel
theorem d_Status_replyByte_49 : decode (rm_code mStatus_replyByte) 49 = .ok (.iconst 0, 1) := by decide +kernel
theorem d_Status_replyByte_50 : decode (rm_code mStatus_replyByte) 50 = .ok (.putfield 44, 3) := by decide +kernel
theorem d_Status_replyByte_53 : decode (rm_code mStatus_replyByte) 53 = .ok (.iload_n 1, 1) := by decide +kernel
theorem d_Status_replyByte_54 : decode (rm_code mStatus_replyByte) 54 = .ok (.ireturn, 1) := by decide +kernel
theorem p_Status_replyByte_0 {S : rz_S} {K : Int32 → rz_S → Prop} (w : ((32 ≤ S.2 3 9 → rz mStatus_replyByte 22 [(0, .ref 3)] [.int 0] S (rz_i K)) ∧ (¬ 32 ≤ S.2 3 9 → rx_in (S.2 3 9) 32 = true ∧ rz mStatus_replyByte 22 [(0, .ref 3)] [.int (S.1 5 ((S.2 3 9).toNatClampNeg))] S (rz_i K)))) : rz mStatus_replyByte 0 [(0, .ref 3)] [] S (rz_i K) := by
  refine rz_pure (pc' := 1) d_Status_replyByte_0 rfl ?_
  refine rz_getiv (v := S.2 3 9) d_Status_replyByte_1 f_9_29 rfl rfl rfl ?_
  refine rz_bipush (v := 32) d_Status_replyByte_4 (by decide) ?_
  refine rz_icmpge (tgt := 21) d_Status_replyByte_6 rfl (fun b1 => ?_) (fun b1 => ?_)
  · skip
    refine rz_iconst (v := 0) d_Status_replyByte_21 (by decide) ?_
    exact rz_pick (ks := [0]) (l := [(0, .ref 3)]) rfl rfl (by decide) rfl (w.1 b1)
  · skip
    refine rz_pure (pc' := 10) d_Status_replyByte_9 rfl ?_
    refine rz_getr d_Status_replyByte_10 f_9_19 rfl rfl ?_
    refine rz_pure (pc' := 14) d_Status_replyByte_13 rfl ?_
    refine rz_getiv (v := S.2 3 9) d_Status_replyByte_14 f_9_29 rfl rfl rfl ?_
    refine rz_ialdv (F := S.1 5) (i := (S.2 3 9).toNatClampNeg) d_Status_replyByte_17 rfl (w.2 b1).1 rfl rfl ?_
    refine rz_pure (pc' := 22) d_Status_replyByte_18 rfl ?_
    exact rz_pick (ks := [0]) (l := [(0, .ref 3)]) rfl rfl (by decide) rfl (w.2 b1).2
theorem p_Status_replyByte_22 {S : rz_S} {K : Int32 → rz_S → Prop} {s0 : Int32} (w : (((S.2 3 9) + 1 < S.2 3 8 → K s0 (rz_uI (rz_uI S 3 9 ((S.2 3 9) + 1)) 3 3 0)) ∧ (¬ (S.2 3 9) + 1 < S.2 3 8 → K s0 (rz_uI (rz_uI S 3 9 ((S.2 3 9) + 1)) 3 3 1)))) : rz mStatus_replyByte 22 [(0, .ref 3)] [.int s0] S (rz_i K) := by
  refine rz_pure (pc' := 23) (l' := [(1, .int s0), (0, .ref 3)]) d_Status_replyByte_22 rfl ?_
  refine rz_pure (pc' := 24) d_Status_replyByte_23 rfl ?_
  refine rz_pure (pc' := 25) d_Status_replyByte_24 rfl ?_
  refine rz_getiv (v := S.2 3 9) d_Status_replyByte_25 f_9_29 rfl rfl rfl ?_
  refine rz_iconst (v := 1) d_Status_replyByte_28 (by decide) ?_
  refine rz_iadd d_Status_replyByte_29 ?_
  refine rz_puti d_Status_replyByte_30 f_9_29 rfl rfl rfl ?_
  refine rz_pure (pc' := 34) d_Status_replyByte_33 rfl ?_
  refine rz_pure (pc' := 35) d_Status_replyByte_34 rfl ?_
  refine rz_getiv (v := (S.2 3 9) + 1) d_Status_replyByte_35 f_9_29 rfl rfl rz_uI_s ?_
  refine rz_pure (pc' := 39) d_Status_replyByte_38 rfl ?_
  refine rz_getiv (v := S.2 3 8) d_Status_replyByte_39 f_9_26 rfl rfl ((rz_uI_n (fun h => absurd h.2 (by decide))).trans rfl) ?_
  refine rz_icmplt (tgt := 49) d_Status_replyByte_42 rfl (fun b1 => ?_) (fun b1 => ?_)
  · skip
    refine rz_iconst (v := 0) d_Status_replyByte_49 (by decide) ?_
    refine rz_puti d_Status_replyByte_50 f_9_44 rfl rfl (by decide) ?_
    refine rz_pure (pc' := 54) d_Status_replyByte_53 rfl ?_
    exact rz_ireti d_Status_replyByte_54 rfl rfl (w.1 b1)
  · skip
    refine rz_iconst (v := 1) d_Status_replyByte_45 (by decide) ?_
    refine rz_pure (pc' := 50) d_Status_replyByte_46 rfl ?_
    refine rz_puti d_Status_replyByte_50 f_9_44 rfl rfl (by decide) ?_
    refine rz_pure (pc' := 54) d_Status_replyByte_53 rfl ?_
    exact rz_ireti d_Status_replyByte_54 rfl rfl (w.2 b1)
theorem d_Status_textByte_0 : decode (rm_code mStatus_textByte) 0 = .ok (.aload_n 0, 1) := by decide +kernel
theorem d_Status_textByte_1 : decode (rm_code mStatus_textByte) 1 = .ok (.getfield 38, 3) := by decide +kernel
theorem d_Status_textByte_4 : decode (rm_code mStatus_textByte) 4 = .ok (.ifCond .ne (7), 3) := by decide +kernel
theorem d_Status_textByte_7 : decode (rm_code mStatus_textByte) 7 = .ok (.aload_n 0, 1) := by decide +kernel
theorem d_Status_textByte_8 : decode (rm_code mStatus_textByte) 8 = .ok (.invokevirtual 55, 3) := by decide +kernel
theorem d_Status_textByte_11 : decode (rm_code mStatus_textByte) 11 = .ok (.aload_n 0, 1) := by decide +kernel
theorem d_Status_textByte_12 : decode (rm_code mStatus_textByte) 12 = .ok (.getfield 41, 3) := by decide +kernel
theorem d_Status_textByte_15 : decode (rm_code mStatus_textByte) 15 = .ok (.aload_n 0, 1) := by decide +kernel
theorem d_Status_textByte_16 : decode (rm_code mStatus_textByte) 16 = .ok (.getfield 15, 3) := by decide +kernel
theorem d_Status_textByte_19 : decode (rm_code mStatus_textByte) 19 = .ok (.arraylength, 1) := by decide +kernel
theorem d_Status_textByte_20 : decode (rm_code mStatus_textByte) 20 = .ok (.if_icmp .ge (15), 3) := by decide +kernel
theorem d_Status_textByte_23 : decode (rm_code mStatus_textByte) 23 = .ok (.aload_n 0, 1) := by decide +kernel
theorem d_Status_textByte_24 : decode (rm_code mStatus_textByte) 24 = .ok (.getfield 15, 3) := by decide +kernel
theorem d_Status_textByte_27 : decode (rm_code mStatus_textByte) 27 = .ok (.aload_n 0, 1) := by decide +kernel
theorem d_Status_textByte_28 : decode (rm_code mStatus_textByte) 28 = .ok (.getfield 41, 3) := by decide +kernel
theorem d_Status_textByte_31 : decode (rm_code mStatus_textByte) 31 = .ok (.iaload, 1) := by decide +kernel
theorem d_Status_textByte_32 : decode (rm_code mStatus_textByte) 32 = .ok (.goto (5), 3) := by decide +kernel
theorem d_Status_textByte_35 : decode (rm_code mStatus_textByte) 35 = .ok (.bipush (13), 2) := by decide +kernel
theorem d_Status_textByte_37 : decode (rm_code mStatus_textByte) 37 = .ok (.istore_n 1, 1) := by decide +kernel
theorem d_Status_textByte_38 : decode (rm_code mStatus_textByte) 38 = .ok (.aload_n 0, 1) := by decide +kernel
theorem d_Status_textByte_39 : decode (rm_code mStatus_textByte) 39 = .ok (.dup, 1) := by decide +kernel
theorem d_Status_textByte_40 : decode (rm_code mStatus_textByte) 40 = .ok (.getfield 41, 3) := by decide +kernel
theorem d_Status_textByte_43 : decode (rm_code mStatus_textByte) 43 = .ok (.iconst 1, 1) := by decide +kernel
theorem d_Status_textByte_44 : decode (rm_code mStatus_textByte) 44 = .ok (.iadd, 1) := by decide +kernel
theorem d_Status_textByte_45 : decode (rm_code mStatus_textByte) 45 = .ok (.putfield 41, 3) := by decide +kernel
theorem d_Status_textByte_48 : decode (rm_code mStatus_textByte) 48 = .ok (.aload_n 0, 1) := by decide +kernel
theorem d_Status_textByte_49 : decode (rm_code mStatus_textByte) 49 = .ok (.getfield 41, 3) := by decide +kernel
theorem d_Status_textByte_52 : decode (rm_code mStatus_textByte) 52 = .ok (.aload_n 0, 1) := by decide +kernel
theorem d_Status_textByte_53 : decode (rm_code mStatus_textByte) 53 = .ok (.getfield 38, 3) := by decide +kernel
theorem d_Status_textByte_56 : decode (rm_code mStatus_textByte) 56 = .ok (.if_icmp .lt (16), 3) := by decide +kernel
theorem d_Status_textByte_59 : decode (rm_code mStatus_textByte) 59 = .ok (.aload_n 0, 1) := by decide +kernel
theorem d_Status_textByte_60 : decode (rm_code mStatus_textByte) 60 = .ok (.iconst 1, 1) := by decide +kernel
theorem d_Status_textByte_61 : decode (rm_code mStatus_textByte) 61 = .ok (.putfield 44, 3) := by decide +kernel
theorem d_Status_textByte_64 : decode (rm_code mStatus_textByte) 64 = .ok (.aload_n 0, 1) := by decide +kernel
theorem d_Status_textByte_65 : decode (rm_code mStatus_textByte) 65 = .ok (.iconst 0, 1) := by decide +kernel
theorem d_Status_textByte_66 : decode (rm_code mStatus_textByte) 66 = .ok (.iconst 0, 1) := by decide +kernel
theorem d_Status_textByte_67 : decode (rm_code mStatus_textByte) 67 = .ok (.iconst 0, 1) := by decide +kernel
theorem d_Status_textByte_68 : decode (rm_code mStatus_textByte) 68 = .ok (.invokevirtual 22, 3) := by decide +kernel
theorem d_Status_textByte_71 : decode (rm_code mStatus_textByte) 71 = .ok (.pop, 1) := by decide +kernel
theorem d_Status_textByte_72 : decode (rm_code mStatus_textByte) 72 = .ok (.iload_n 1, 1) := by decide +kernel
theorem d_Status_textByte_73 : decode (rm_code mStatus_textByte) 73 = .ok (.ireturn, 1) := by decide +kernel
theorem p_Status_textByte_0 {S : rz_S} {K : Int32 → rz_S → Prop} (w : ((S.2 3 5 = 0 → rz_ev mStatus_spell [.ref 3] S (rz_v (fun Sq2 => rz mStatus_textByte 11 [(0, .ref 3)] [] Sq2 (rz_i K)))) ∧ (¬ S.2 3 5 = 0 → rz mStatus_textByte 11 [(0, .ref 3)] [] S (rz_i K)))) : rz mStatus_textByte 0 [(0, .ref 3)] [] S (rz_i K) := by
  refine rz_pure (pc' := 1) d_Status_textByte_0 rfl ?_
  refine rz_getiv (v := S.2 3 5) d_Status_textByte_1 f_9_38 rfl rfl rfl ?_
  refine rz_ifne (tgt := 11) d_Status_textByte_4 rfl (fun b1 => ?_) (fun b1 => ?_)
  · skip
    exact rz_pick (ks := [0]) (l := [(0, .ref 3)]) rfl rfl (by decide) rfl (w.2 b1)
  · skip
    refine rz_pure (pc' := 8) d_Status_textByte_7 rfl ?_
    refine rz_callVv (t := []) d_Status_textByte_8 w_9_55 rfl rfl rfl (w.1 b1) (fun Sq2 q2 => ?_)
    exact rz_pick (ks := [0]) (l := [(0, .ref 3)]) rfl rfl (by decide) rfl q2
theorem p_Status_textByte_11 {S : rz_S} {K : Int32 → rz_S → Prop} (w : ((40 ≤ S.2 3 6 → rz mStatus_textByte 37 [(0, .ref 3)] [.int 13] S (rz_i K)) ∧ (¬ 40 ≤ S.2 3 6 → rx_in (S.2 3 6) 40 = true ∧ rz mStatus_textByte 37 [(0, .ref 3)] [.int (S.1 4 ((S.2 3 6).toNatClampNeg))] S (rz_i K)))) : rz mStatus_textByte 11 [(0, .ref 3)] [] S (rz_i K) := by
  refine rz_pure (pc' := 12) d_Status_textByte_11 rfl ?_
  refine rz_getiv (v := S.2 3 6) d_Status_textByte_12 f_9_41 rfl rfl rfl ?_
  refine rz_pure (pc' := 16) d_Status_textByte_15 rfl ?_
  refine rz_getr d_Status_textByte_16 f_9_15 rfl rfl ?_
  refine rz_alenv (v := 40) d_Status_textByte_19 rfl (by decide) rfl ?_
  refine rz_icmpge (tgt := 35) d_Status_textByte_20 rfl (fun b1 => ?_) (fun b1 => ?_)
  · skip
    refine rz_bipush (v := 13) d_Status_textByte_35 (by decide) ?_
    exact rz_pick (ks := [0]) (l := [(0, .ref 3)]) rfl rfl (by decide) rfl (w.1 b1)
  · skip
    refine rz_pure (pc' := 24) d_Status_textByte_23 rfl ?_
    refine rz_getr d_Status_textByte_24 f_9_15 rfl rfl ?_
    refine rz_pure (pc' := 28) d_Status_textByte_27 rfl ?_
    refine rz_getiv (v := S.2 3 6) d_Status_textByte_28 f_9_41 rfl rfl rfl ?_
    refine rz_ialdv (F := S.1 4) (i := (S.2 3 6).toNatClampNeg) d_Status_textByte_31 rfl (w.2 b1).1 rfl rfl ?_
    refine rz_pure (pc' := 37) d_Status_textByte_32 rfl ?_
    exact rz_pick (ks := [0]) (l := [(0, .ref 3)]) rfl rfl (by decide) rfl (w.2 b1).2
theorem p_Status_textByte_37 {S : rz_S} {K : Int32 → rz_S → Prop} {s0 : Int32} (w : (((S.2 3 6) + 1 < S.2 3 5 → K s0 (rz_uI S 3 6 ((S.2 3 6) + 1))) ∧ (¬ (S.2 3 6) + 1 < S.2 3 5 → rz_ev mStatus_set [.ref 3, .int 0, .int 0, .int 0] (rz_uI (rz_uI S 3 6 ((S.2 3 6) + 1)) 3 3 1) (rz_i (fun xq2 Sq2 => K s0 Sq2))))) : rz mStatus_textByte 37 [(0, .ref 3)] [.int s0] S (rz_i K) := by
  refine rz_pure (pc' := 38) (l' := [(1, .int s0), (0, .ref 3)]) d_Status_textByte_37 rfl ?_
  refine rz_pure (pc' := 39) d_Status_textByte_38 rfl ?_
  refine rz_pure (pc' := 40) d_Status_textByte_39 rfl ?_
  refine rz_getiv (v := S.2 3 6) d_Status_textByte_40 f_9_41 rfl rfl rfl ?_
  refine rz_iconst (v := 1) d_Status_textByte_43 (by decide) ?_
  refine rz_iadd d_Status_textByte_44 ?_
  refine rz_puti d_Status_textByte_45 f_9_41 rfl rfl rfl ?_
  refine rz_pure (pc' := 49) d_Status_textByte_48 rfl ?_
  refine rz_getiv (v := (S.2 3 6) + 1) d_Status_textByte_49 f_9_41 rfl rfl rz_uI_s ?_
  refine rz_pure (pc' := 53) d_Status_textByte_52 rfl ?_
  refine rz_getiv (v := S.2 3 5) d_Status_textByte_53 f_9_38 rfl rfl ((rz_uI_n (fun h => absurd h.2 (by decide))).trans rfl) ?_
  refine rz_icmplt (tgt := 72) d_Status_textByte_56 rfl (fun b1 => ?_) (fun b1 => ?_)
  · skip
    refine rz_pure (pc' := 73) d_Status_textByte_72 rfl ?_
    exact rz_ireti d_Status_textByte_73 rfl rfl (w.1 b1)
  · skip
    refine rz_pure (pc' := 60) d_Status_textByte_59 rfl ?_
    refine rz_iconst (v := 1) d_Status_textByte_60 (by decide) ?_
    refine rz_puti d_Status_textByte_61 f_9_44 rfl rfl (by decide) ?_
    refine rz_pure (pc' := 65) d_Status_textByte_64 rfl ?_
    refine rz_iconst (v := 0) d_Status_textByte_65 (by decide) ?_
    refine rz_iconst (v := 0) d_Status_textByte_66 (by decide) ?_
    refine rz_iconst (v := 0) d_Status_textByte_67 (by decide) ?_
    refine rz_callVi (t := [.int 0, .int 0, .int 0]) d_Status_textByte_68 w_9_22 rfl rfl rfl (w.2 b1) (fun xq2 Sq2 q2 => ?_)
    refine rz_pure (pc' := 72) d_Status_textByte_71 rfl ?_
    refine rz_pure (pc' := 73) d_Status_textByte_72 rfl ?_
    exact rz_ireti d_Status_textByte_73 rfl rfl q2
theorem d_Status_spell_0 : decode (rm_code mStatus_spell) 0 = .ok (.aload_n 0, 1) := by decide +kernel
theorem d_Status_spell_1 : decode (rm_code mStatus_spell) 1 = .ok (.aload_n 0, 1) := by decide +kernel
theorem d_Status_spell_2 : decode (rm_code mStatus_spell) 2 = .ok (.getfield 9, 3) := by decide +kernel
theorem d_Status_spell_5 : decode (rm_code mStatus_spell) 5 = .ok (.invokevirtual 58, 3) := by decide +kernel
theorem d_Status_spell_8 : decode (rm_code mStatus_spell) 8 = .ok (.aload_n 0, 1) := by decide +kernel
theorem d_Status_spell_9 : decode (rm_code mStatus_spell) 9 = .ok (.bipush (44), 2) := by decide +kernel
theorem d_Status_spell_11 : decode (rm_code mStatus_spell) 11 = .ok (.invokevirtual 62, 3) := by decide +kernel
theorem d_Status_spell_14 : decode (rm_code mStatus_spell) 14 = .ok (.aload_n 0, 1) := by decide +kernel
theorem d_Status_spell_15 : decode (rm_code mStatus_spell) 15 = .ok (.invokevirtual 65, 3) := by decide +kernel
theorem d_Status_spell_18 : decode (rm_code mStatus_spell) 18 = .ok (.astore_n 1, 1) := by decide +kernel
theorem d_Status_spell_19 : decode (rm_code mStatus_spell) 19 = .ok (.iconst 0, 1) := by decide +kernel
theorem d_Status_spell_20 : decode (rm_code mStatus_spell) 20 = .ok (.istore_n 2, 1) := by decide +kernel
theorem d_Status_spell_21 : decode (rm_code mStatus_spell) 21 = .ok (.iload_n 2, 1) := by decide +kernel
theorem d_Status_spell_22 : decode (rm_code mStatus_spell) 22 = .ok (.aload_n 1, 1) := by decide +kernel
theorem d_Status_spell_23 : decode (rm_code mStatus_spell) 23 = .ok (.invokevirtual 69, 3) := by decide +kernel
theorem d_Status_spell_26 : decode (rm_code mStatus_spell) 26 = .ok (.if_icmp .ge (18), 3) := by decide +kernel
theorem d_Status_spell_29 : decode (rm_code mStatus_spell) 29 = .ok (.aload_n 0, 1) := by decide +kernel
theorem d_Status_spell_30 : decode (rm_code mStatus_spell) 30 = .ok (.aload_n 1, 1) := by decide +kernel
theorem d_Status_spell_31 : decode (rm_code mStatus_spell) 31 = .ok (.iload_n 2, 1) := by decide +kernel
theorem d_Status_spell_32 : decode (rm_code mStatus_spell) 32 = .ok (.invokevirtual 73, 3) := by decide +kernel
theorem d_Status_spell_35 : decode (rm_code mStatus_spell) 35 = .ok (.invokevirtual 62, 3) := by decide +kernel
theorem d_Status_spell_38 : decode (rm_code mStatus_spell) 38 = .ok (.iinc 2 (1), 3) := by decide +kernel
theorem d_Status_spell_41 : decode (rm_code mStatus_spell) 41 = .ok (.goto (-20), 3) := by decide +kernel
theorem d_Status_spell_44 : decode (rm_code mStatus_spell) 44 = .ok (.aload_n 0, 1) := by decide +kernel
theorem d_Status_spell_45 : decode (rm_code mStatus_spell) 45 = .ok (.bipush (44), 2) := by decide +kernel
theorem d_Status_spell_47 : decode (rm_code mStatus_spell) 47 = .ok (.invokevirtual 62, 3) := by decide +kernel
theorem d_Status_spell_50 : decode (rm_code mStatus_spell) 50 = .ok (.aload_n 0, 1) := by decide +kernel
theorem d_Status_spell_51 : decode (rm_code mStatus_spell) 51 = .ok (.aload_n 0, 1) := by decide +kernel
theorem d_Status_spell_52 : decode (rm_code mStatus_spell) 52 = .ok (.getfield 32, 3) := by decide +kernel
theorem d_Status_spell_55 : decode (rm_code mStatus_spell) 55 = .ok (.invokevirtual 58, 3) := by decide +kernel
theorem d_Status_spell_58 : decode (rm_code mStatus_spell) 58 = .ok (.aload_n 0, 1) := by decide +kernel
theorem d_Status_spell_59 : decode (rm_code mStatus_spell) 59 = .ok (.bipush (44), 2) := by decide +kernel
theorem d_Status_spell_61 : decode (rm_code mStatus_spell) 61 = .ok (.invokevirtual 62, 3) := by decide +kernel
theorem d_Status_spell_64 : decode (rm_code mStatus_spell) 64 = .ok (.aload_n 0, 1) := by decide +kernel
theorem d_Status_spell_65 : decode (rm_code mStatus_spell) 65 = .ok (.aload_n 0, 1) := by decide +kernel
theorem d_Status_spell_66 : decode (rm_code mStatus_spell) 66 = .ok (.getfield 35, 3) := by decide +kernel
theorem d_Status_spell_69 : decode (rm_code mStatus_spell) 69 = .ok (.invokevirtual 58, 3) := by decide +kernel
theorem d_Status_spell_72 : decode (rm_code mStatus_spell) 72 = .ok (.aload_n 0, 1) := by decide +kernel
theorem d_Status_spell_73 : decode (rm_code mStatus_spell) 73 = .ok (.bipush (13), 2) := by decide +kernel
theorem d_Status_spell_75 : decode (rm_code mStatus_spell) 75 = .ok (.invokevirtual 62, 3) := by decide +kernel
theorem d_Status_spell_78 : decode (rm_code mStatus_spell) 78 = .ok (.return_, 1) := by decide +kernel
theorem p_Status_spell_0 {S : rz_S} {K : rz_S → Prop} (w : rz_ev mStatus_addTwoDigits [.ref 3, .int (S.2 3 0)] S (rz_v (fun Sq1 => rz_ev mStatus_add [.ref 3, .int 44] Sq1 (rz_v (fun Sq2 => rz_ev mStatus_words [.ref 3] Sq2 (rz_r (fun xq3 Sq3 => rz mStatus_spell 18 [(0, .ref 3)] (xq3 :: []) Sq3 (rz_v K)))))))) : rz mStatus_spell 0 [(0, .ref 3)] [] S (rz_v K) := by
  refine rz_pure (pc' := 1) d_Status_spell_0 rfl ?_
  refine rz_pure (pc' := 2) d_Status_spell_1 rfl ?_
  refine rz_getiv (v := S.2 3 0) d_Status_spell_2 f_9_9 rfl rfl rfl ?_
  refine rz_callVv (t := [.int (S.2 3 0)]) d_Status_spell_5 w_9_58 rfl rfl rfl w (fun Sq1 q1 => ?_)
  refine rz_pure (pc' := 9) d_Status_spell_8 rfl ?_
  refine rz_bipush (v := 44) d_Status_spell_9 (by decide) ?_
  refine rz_callVv (t := [.int 44]) d_Status_spell_11 w_9_62 rfl rfl rfl q1 (fun Sq2 q2 => ?_)
  refine rz_pure (pc' := 15) d_Status_spell_14 rfl ?_
  refine rz_callVr (t := []) d_Status_spell_15 w_9_65 rfl rfl rfl q2 (fun xq3 Sq3 q3 => ?_)
  exact rz_pick (ks := [0]) (l := [(0, .ref 3)]) rfl rfl (by decide) rfl q3
theorem p_Status_spell_18 {S : rz_S} {K : rz_S → Prop} {s0 : Nat} (hs0 : txP s0) (w : rz mStatus_spell 21 [(0, .ref 3), (1, .ref s0), (2, .int 0)] [] S (rz_v K)) : rz mStatus_spell 18 [(0, .ref 3)] [.ref s0] S (rz_v K) := by
  refine rz_pure (pc' := 19) (l' := [(1, .ref s0), (0, .ref 3)]) d_Status_spell_18 rfl ?_
  refine rz_iconst (v := 0) d_Status_spell_19 (by decide) ?_
  refine rz_pure (pc' := 21) (l' := [(2, .int 0), (1, .ref s0), (0, .ref 3)]) d_Status_spell_20 rfl ?_
  exact rz_pick (ks := [0, 1, 2]) (l := [(0, .ref 3), (1, .ref s0), (2, .int 0)]) rfl rfl (by decide) rfl w
theorem p_Status_spell_21 {S : rz_S} {K : rz_S → Prop} {a1 : Nat} (ha1 : txP a1) {a2 : Int32} (w : rz_ev mStr_length [.ref a1] S (rz_i (fun xq1 Sq1 => ((xq1 ≤ a2 → rz_ev mStatus_add [.ref 3, .int 44] Sq1 (rz_v (fun Sq3 => rz_ev mStatus_addTwoDigits [.ref 3, .int (Sq3.2 3 1)] Sq3 (rz_v (fun Sq4 => rz_ev mStatus_add [.ref 3, .int 44] Sq4 (rz_v (fun Sq5 => rz_ev mStatus_addTwoDigits [.ref 3, .int (Sq5.2 3 2)] Sq5 (rz_v (fun Sq6 => rz_ev mStatus_add [.ref 3, .int 13] Sq6 (rz_v (fun Sq7 => K Sq7))))))))))) ∧ (¬ xq1 ≤ a2 → rz_ev mStr_charAt [.ref a1, .int a2] Sq1 (rz_i (fun xq8 Sq8 => rz_ev mStatus_add [.ref 3, .int xq8] Sq8 (rz_v (fun Sq9 => rz mStatus_spell 21 [(0, .ref 3), (1, .ref a1), (2, .int (a2 + 1))] [] Sq9 (rz_v K)))))))))) : rz mStatus_spell 21 [(0, .ref 3), (1, .ref a1), (2, .int a2)] [] S (rz_v K) := by
  refine rz_pure (pc' := 22) d_Status_spell_21 rfl ?_
  refine rz_pure (pc' := 23) d_Status_spell_22 rfl ?_
  refine rz_callTi (t := []) d_Status_spell_23 w_9_69 rfl rfl ha1 rfl w (fun xq1 Sq1 q1 => ?_)
  refine rz_icmpge (tgt := 44) d_Status_spell_26 rfl (fun b2 => ?_) (fun b2 => ?_)
  · skip
    refine rz_pure (pc' := 45) d_Status_spell_44 rfl ?_
    refine rz_bipush (v := 44) d_Status_spell_45 (by decide) ?_
    refine rz_callVv (t := [.int 44]) d_Status_spell_47 w_9_62 rfl rfl rfl (q1.1 b2) (fun Sq3 q3 => ?_)
    refine rz_pure (pc' := 51) d_Status_spell_50 rfl ?_
    refine rz_pure (pc' := 52) d_Status_spell_51 rfl ?_
    refine rz_getiv (v := Sq3.2 3 1) d_Status_spell_52 f_9_32 rfl rfl rfl ?_
    refine rz_callVv (t := [.int (Sq3.2 3 1)]) d_Status_spell_55 w_9_58 rfl rfl rfl q3 (fun Sq4 q4 => ?_)
    refine rz_pure (pc' := 59) d_Status_spell_58 rfl ?_
    refine rz_bipush (v := 44) d_Status_spell_59 (by decide) ?_
    refine rz_callVv (t := [.int 44]) d_Status_spell_61 w_9_62 rfl rfl rfl q4 (fun Sq5 q5 => ?_)
    refine rz_pure (pc' := 65) d_Status_spell_64 rfl ?_
    refine rz_pure (pc' := 66) d_Status_spell_65 rfl ?_
    refine rz_getiv (v := Sq5.2 3 2) d_Status_spell_66 f_9_35 rfl rfl rfl ?_
    refine rz_callVv (t := [.int (Sq5.2 3 2)]) d_Status_spell_69 w_9_58 rfl rfl rfl q5 (fun Sq6 q6 => ?_)
    refine rz_pure (pc' := 73) d_Status_spell_72 rfl ?_
    refine rz_bipush (v := 13) d_Status_spell_73 (by decide) ?_
    refine rz_callVv (t := [.int 13]) d_Status_spell_75 w_9_62 rfl rfl rfl q6 (fun Sq7 q7 => ?_)
    exact rz_vretv d_Status_spell_78 rfl q7
  · skip
    refine rz_pure (pc' := 30) d_Status_spell_29 rfl ?_
    refine rz_pure (pc' := 31) d_Status_spell_30 rfl ?_
    refine rz_pure (pc' := 32) d_Status_spell_31 rfl ?_
    refine rz_callTi (t := [.int a2]) d_Status_spell_32 w_9_73 rfl rfl ha1 rfl (q1.2 b2) (fun xq8 Sq8 q8 => ?_)
    refine rz_callVv (t := [.int xq8]) d_Status_spell_35 w_9_62 rfl rfl rfl q8 (fun Sq9 q9 => ?_)
    refine rz_pure (pc' := 41) (l' := [(2, .int (a2 + 1)), (0, .ref 3), (1, .ref a1)]) d_Status_spell_38 rfl ?_
    refine rz_pure (pc' := 21) d_Status_spell_41 rfl ?_
    exact rz_pick (ks := [0, 1, 2]) (l := [(0, .ref 3), (1, .ref a1), (2, .int (a2 + 1))]) rfl rfl (by decide) rfl q9
theorem d_Status_addTwoDigits_0 : decode (rm_code mStatus_addTwoDigits) 0 = .ok (.aload_n 0, 1) := by decide +kernel
theorem d_Status_addTwoDigits_1 : decode (rm_code mStatus_addTwoDigits) 1 = .ok (.bipush (48), 2) := by decide +kernel
theorem d_Status_addTwoDigits_3 : decode (rm_code mStatus_addTwoDigits) 3 = .ok (.iload_n 1, 1) := by decide +kernel
theorem d_Status_addTwoDigits_4 : decode (rm_code mStatus_addTwoDigits) 4 = .ok (.bipush (10), 2) := by decide +kernel
theorem d_Status_addTwoDigits_6 : decode (rm_code mStatus_addTwoDigits) 6 = .ok (.idiv, 1) := by decide +kernel
theorem d_Status_addTwoDigits_7 : decode (rm_code mStatus_addTwoDigits) 7 = .ok (.bipush (10), 2) := by decide +kernel
theorem d_Status_addTwoDigits_9 : decode (rm_code mStatus_addTwoDigits) 9 = .ok (.irem, 1) := by decide +kernel
theorem d_Status_addTwoDigits_10 : decode (rm_code mStatus_addTwoDigits) 10 = .ok (.iadd, 1) := by decide +kernel
theorem d_Status_addTwoDigits_11 : decode (rm_code mStatus_addTwoDigits) 11 = .ok (.invokevirtual 62, 3) := by decide +kernel
theorem d_Status_addTwoDigits_14 : decode (rm_code mStatus_addTwoDigits) 14 = .ok (.aload_n 0, 1) := by decide +kernel
theorem d_Status_addTwoDigits_15 : decode (rm_code mStatus_addTwoDigits) 15 = .ok (.bipush (48), 2) := by decide +kernel
theorem d_Status_addTwoDigits_17 : decode (rm_code mStatus_addTwoDigits) 17 = .ok (.iload_n 1, 1) := by decide +kernel
theorem d_Status_addTwoDigits_18 : decode (rm_code mStatus_addTwoDigits) 18 = .ok (.bipush (10), 2) := by decide +kernel
theorem d_Status_addTwoDigits_20 : decode (rm_code mStatus_addTwoDigits) 20 = .ok (.irem, 1) := by decide +kernel
theorem d_Status_addTwoDigits_21 : decode (rm_code mStatus_addTwoDigits) 21 = .ok (.iadd, 1) := by decide +kernel
theorem d_Status_addTwoDigits_22 : decode (rm_code mStatus_addTwoDigits) 22 = .ok (.invokevirtual 62, 3) := by decide +kernel
theorem d_Status_addTwoDigits_25 : decode (rm_code mStatus_addTwoDigits) 25 = .ok (.return_, 1) := by decide +kernel
theorem p_Status_addTwoDigits_0 {S : rz_S} {K : rz_S → Prop} {a1 : Int32} (w : rz_ev mStatus_add [.ref 3, .int (48 + ((a1 / 10) - (a1 / 10) / 10 * 10))] S (rz_v (fun Sq1 => rz_ev mStatus_add [.ref 3, .int (48 + (a1 - a1 / 10 * 10))] Sq1 (rz_v (fun Sq2 => K Sq2))))) : rz mStatus_addTwoDigits 0 [(0, .ref 3), (1, .int a1)] [] S (rz_v K) := by
  refine rz_pure (pc' := 1) d_Status_addTwoDigits_0 rfl ?_
  refine rz_bipush (v := 48) d_Status_addTwoDigits_1 (by decide) ?_
  refine rz_pure (pc' := 4) d_Status_addTwoDigits_3 rfl ?_
  refine rz_bipush (v := 10) d_Status_addTwoDigits_4 (by decide) ?_
  refine rz_idiv d_Status_addTwoDigits_6 (by decide) ?_
  refine rz_bipush (v := 10) d_Status_addTwoDigits_7 (by decide) ?_
  refine rz_irem d_Status_addTwoDigits_9 (by decide) ?_
  refine rz_iadd d_Status_addTwoDigits_10 ?_
  refine rz_callVv (t := [.int (48 + ((a1 / 10) - (a1 / 10) / 10 * 10))]) d_Status_addTwoDigits_11 w_9_62 rfl rfl rfl w (fun Sq1 q1 => ?_)
  refine rz_pure (pc' := 15) d_Status_addTwoDigits_14 rfl ?_
  refine rz_bipush (v := 48) d_Status_addTwoDigits_15 (by decide) ?_
  refine rz_pure (pc' := 18) d_Status_addTwoDigits_17 rfl ?_
  refine rz_bipush (v := 10) d_Status_addTwoDigits_18 (by decide) ?_
  refine rz_irem d_Status_addTwoDigits_20 (by decide) ?_
  refine rz_iadd d_Status_addTwoDigits_21 ?_
  refine rz_callVv (t := [.int (48 + (a1 - a1 / 10 * 10))]) d_Status_addTwoDigits_22 w_9_62 rfl rfl rfl q1 (fun Sq2 q2 => ?_)
  exact rz_vretv d_Status_addTwoDigits_25 rfl q2
theorem d_Status_add_0 : decode (rm_code mStatus_add) 0 = .ok (.aload_n 0, 1) := by decide +kernel
theorem d_Status_add_1 : decode (rm_code mStatus_add) 1 = .ok (.getfield 38, 3) := by decide +kernel
theorem d_Status_add_4 : decode (rm_code mStatus_add) 4 = .ok (.aload_n 0, 1) := by decide +kernel
theorem d_Status_add_5 : decode (rm_code mStatus_add) 5 = .ok (.getfield 15, 3) := by decide +kernel
theorem d_Status_add_8 : decode (rm_code mStatus_add) 8 = .ok (.arraylength, 1) := by decide +kernel
theorem d_Status_add_9 : decode (rm_code mStatus_add) 9 = .ok (.if_icmp .ge (23), 3) := by decide +kernel
theorem d_Status_add_12 : decode (rm_code mStatus_add) 12 = .ok (.aload_n 0, 1) := by decide +kernel
theorem d_Status_add_13 : decode (rm_code mStatus_add) 13 = .ok (.getfield 15, 3) := by decide +kernel
theorem d_Status_add_16 : decode (rm_code mStatus_add) 16 = .ok (.aload_n 0, 1) := by decide +kernel
theorem d_Status_add_17 : decode (rm_code mStatus_add) 17 = .ok (.getfield 38, 3) := by decide +kernel
theorem d_Status_add_20 : decode (rm_code mStatus_add) 20 = .ok (.iload_n 1, 1) := by decide +kernel
theorem d_Status_add_21 : decode (rm_code mStatus_add) 21 = .ok (.iastore, 1) := by decide +kernel
theorem d_Status_add_22 : decode (rm_code mStatus_add) 22 = .ok (.aload_n 0, 1) := by decide +kernel
theorem d_Status_add_23 : decode (rm_code mStatus_add) 23 = .ok (.dup, 1) := by decide +kernel
theorem d_Status_add_24 : decode (rm_code mStatus_add) 24 = .ok (.getfield 38, 3) := by decide +kernel
theorem d_Status_add_27 : decode (rm_code mStatus_add) 27 = .ok (.iconst 1, 1) := by decide +kernel
theorem d_Status_add_28 : decode (rm_code mStatus_add) 28 = .ok (.iadd, 1) := by decide +kernel
theorem d_Status_add_29 : decode (rm_code mStatus_add) 29 = .ok (.putfield 38, 3) := by decide +kernel
theorem d_Status_add_32 : decode (rm_code mStatus_add) 32 = .ok (.return_, 1) := by decide +kernel
theorem p_Status_add_0 {S : rz_S} {K : rz_S → Prop} {a1 : Int32} (w : ((40 ≤ S.2 3 5 → K S) ∧ (¬ 40 ≤ S.2 3 5 → rx_in (S.2 3 5) 40 = true ∧ K (rz_uI (rz_fA S 4 (upd (S.1 4) ((S.2 3 5).toNatClampNeg) a1)) 3 5 ((S.2 3 5) + 1))))) : rz mStatus_add 0 [(0, .ref 3), (1, .int a1)] [] S (rz_v K) := by
  refine rz_pure (pc' := 1) d_Status_add_0 rfl ?_
  refine rz_getiv (v := S.2 3 5) d_Status_add_1 f_9_38 rfl rfl rfl ?_
  refine rz_pure (pc' := 5) d_Status_add_4 rfl ?_
  refine rz_getr d_Status_add_5 f_9_15 rfl rfl ?_
  refine rz_alenv (v := 40) d_Status_add_8 rfl (by decide) rfl ?_
  refine rz_icmpge (tgt := 32) d_Status_add_9 rfl (fun b1 => ?_) (fun b1 => ?_)
  · skip
    exact rz_vretv d_Status_add_32 rfl (w.1 b1)
  · skip
    refine rz_pure (pc' := 13) d_Status_add_12 rfl ?_
    refine rz_getr d_Status_add_13 f_9_15 rfl rfl ?_
    refine rz_pure (pc' := 17) d_Status_add_16 rfl ?_
    refine rz_getiv (v := S.2 3 5) d_Status_add_17 f_9_38 rfl rfl rfl ?_
    refine rz_pure (pc' := 21) d_Status_add_20 rfl ?_
    refine rz_iastv (F := S.1 4) (i := (S.2 3 5).toNatClampNeg) d_Status_add_21 rfl (w.2 b1).1 rfl rfl ?_
    refine rz_pure (pc' := 23) d_Status_add_22 rfl ?_
    refine rz_pure (pc' := 24) d_Status_add_23 rfl ?_
    refine rz_getiv (v := S.2 3 5) d_Status_add_24 f_9_38 rfl rfl rfl ?_
    refine rz_iconst (v := 1) d_Status_add_27 (by decide) ?_
    refine rz_iadd d_Status_add_28 ?_
    refine rz_puti d_Status_add_29 f_9_38 rfl rfl rfl ?_
    exact rz_vretv d_Status_add_32 rfl (w.2 b1).2
theorem d_Status_words_0 : decode (rm_code mStatus_words) 0 = .ok (.aload_n 0, 1) := by decide +kernel
theorem d_Status_words_1 : decode (rm_code mStatus_words) 1 = .ok (.getfield 9, 3) := by decide +kernel
theorem d_Status_words_4 : decode (rm_code mStatus_words) 4 = .ok (.tableswitch (367) (0) (74) #[(316), (319), (367), (367), (367), (367), (367), (367), (367), (367), (367), (367), (367), (367), (367), (367), (367), (367), (367), (367), (367), (367), (367), (367), (367), (322), (325), (367), (328), (367), (367), (367), (367), (367), (367), (367), (367), (367), (367), (367), (367), (367), (367), (367), (367), (367), (367), (367), (367), (367), (367), (367), (367), (367), (367), (367), (367), (367), (367), (367), (331), (334), (337), (340), (343), (346), (349), (367), (367), (367), (352), (355), (358), (361), (364)], 316) := by decide +kernel
theorem d_Status_words_320 : decode (rm_code mStatus_words) 320 = .ok (.ldc 77, 2) := by decide +kernel
theorem d_Status_words_322 : decode (rm_code mStatus_words) 322 = .ok (.areturn, 1) := by decide +kernel
theorem d_Status_words_323 : decode (rm_code mStatus_words) 323 = .ok (.ldc 79, 2) := by decide +kernel
theorem d_Status_words_325 : decode (rm_code mStatus_words) 325 = .ok (.areturn, 1) := by decide +kernel
theorem d_Status_words_326 : decode (rm_code mStatus_words) 326 = .ok (.ldc 81, 2) := by decide +kernel
theorem d_Status_words_328 : decode (rm_code mStatus_words) 328 = .ok (.areturn, 1) := by decide +kernel
theorem d_Status_words_329 : decode (rm_code mStatus_words) 329 = .ok (.ldc 83, 2) := by decide +kernel
theorem d_Status_words_331 : decode (rm_code mStatus_words) 331 = .ok (.areturn, 1) := by decide +kernel
theorem d_Status_words_332 : decode (rm_code mStatus_words) 332 = .ok (.ldc 85, 2) := by decide +kernel
theorem d_Status_words_334 : decode (rm_code mStatus_words) 334 = .ok (.areturn, 1) := by decide +kernel
theorem d_Status_words_335 : decode (rm_code mStatus_words) 335 = .ok (.ldc 87, 2) := by decide +kernel
theorem d_Status_words_337 : decode (rm_code mStatus_words) 337 = .ok (.areturn, 1) := by decide +kernel
theorem d_Status_words_338 : decode (rm_code mStatus_words) 338 = .ok (.ldc 89, 2) := by decide +kernel
theorem d_Status_words_340 : decode (rm_code mStatus_words) 340 = .ok (.areturn, 1) := by decide +kernel
theorem d_Status_words_341 : decode (rm_code mStatus_words) 341 = .ok (.ldc 91, 2) := by decide +kernel
theorem d_Status_words_343 : decode (rm_code mStatus_words) 343 = .ok (.areturn, 1) := by decide +kernel
theorem d_Status_words_344 : decode (rm_code mStatus_words) 344 = .ok (.ldc 93, 2) := by decide +kernel
theorem d_Status_words_346 : decode (rm_code mStatus_words) 346 = .ok (.areturn, 1) := by decide +kernel
theorem d_Status_words_347 : decode (rm_code mStatus_words) 347 = .ok (.ldc 95, 2) := by decide +kernel
theorem d_Status_words_349 : decode (rm_code mStatus_words) 349 = .ok (.areturn, 1) := by decide +kernel
theorem d_Status_words_350 : decode (rm_code mStatus_words) 350 = .ok (.ldc 97, 2) := by decide +kernel
theorem d_Status_words_352 : decode (rm_code mStatus_words) 352 = .ok (.areturn, 1) := by decide +kernel
theorem d_Status_words_353 : decode (rm_code mStatus_words) 353 = .ok (.ldc 99, 2) := by decide +kernel
theorem d_Status_words_355 : decode (rm_code mStatus_words) 355 = .ok (.areturn, 1) := by decide +kernel
theorem d_Status_words_356 : decode (rm_code mStatus_words) 356 = .ok (.ldc 101, 2) := by decide +kernel
theorem d_Status_words_358 : decode (rm_code mStatus_words) 358 = .ok (.areturn, 1) := by decide +kernel
theorem d_Status_words_359 : decode (rm_code mStatus_words) 359 = .ok (.ldc 103, 2) := by decide +kernel
theorem d_Status_words_361 : decode (rm_code mStatus_words) 361 = .ok (.areturn, 1) := by decide +kernel
theorem d_Status_words_362 : decode (rm_code mStatus_words) 362 = .ok (.ldc 105, 2) := by decide +kernel
theorem d_Status_words_364 : decode (rm_code mStatus_words) 364 = .ok (.areturn, 1) := by decide +kernel
theorem d_Status_words_365 : decode (rm_code mStatus_words) 365 = .ok (.ldc 107, 2) := by decide +kernel
theorem d_Status_words_367 : decode (rm_code mStatus_words) 367 = .ok (.areturn, 1) := by decide +kernel
theorem d_Status_words_368 : decode (rm_code mStatus_words) 368 = .ok (.ldc 109, 2) := by decide +kernel
theorem d_Status_words_370 : decode (rm_code mStatus_words) 370 = .ok (.areturn, 1) := by decide +kernel
theorem d_Status_words_371 : decode (rm_code mStatus_words) 371 = .ok (.aload_n 0, 1) := by decide +kernel
theorem d_Status_words_372 : decode (rm_code mStatus_words) 372 = .ok (.getfield 9, 3) := by decide +kernel
theorem d_Status_words_375 : decode (rm_code mStatus_words) 375 = .ok (.bipush (30), 2) := by decide +kernel
theorem d_Status_words_377 : decode (rm_code mStatus_words) 377 = .ok (.if_icmp .ge (8), 3) := by decide +kernel
theorem d_Status_words_380 : decode (rm_code mStatus_words) 380 = .ok (.ldc 111, 2) := by decide +kernel
theorem d_Status_words_382 : decode (rm_code mStatus_words) 382 = .ok (.goto (5), 3) := by decide +kernel
theorem d_Status_words_385 : decode (rm_code mStatus_words) 385 = .ok (.ldc 113, 2) := by decide +kernel
theorem d_Status_words_387 : decode (rm_code mStatus_words) 387 = .ok (.areturn, 1) := by decide +kernel
theorem p_Status_words_0 {S : rz_S} {K : Value → rz_S → Prop} (w : (((S.2 3 0).toInt < 0 ∨ 74 < (S.2 3 0).toInt → ((30 ≤ S.2 3 0 → K (.ref 1000018) S) ∧ (¬ 30 ≤ S.2 3 0 → K (.ref 1000017) S))) ∧ ((S.2 3 0) = 0 → K (.ref 1000000) S) ∧ ((S.2 3 0) = 1 → K (.ref 1000001) S) ∧ ((S.2 3 0) = 2 → ((30 ≤ S.2 3 0 → K (.ref 1000018) S) ∧ (¬ 30 ≤ S.2 3 0 → K (.ref 1000017) S))) ∧ ((S.2 3 0) = 3 → ((30 ≤ S.2 3 0 → K (.ref 1000018) S) ∧ (¬ 30 ≤ S.2 3 0 → K (.ref 1000017) S))) ∧ ((S.2 3 0) = 4 → ((30 ≤ S.2 3 0 → K (.ref 1000018) S) ∧ (¬ 30 ≤ S.2 3 0 → K (.ref 1000017) S))) ∧ ((S.2 3 0) = 5 → ((30 ≤ S.2 3 0 → K (.ref 1000018) S) ∧ (¬ 30 ≤ S.2 3 0 → K (.ref 1000017) S))) ∧ ((S.2 3 0) = 6 → ((30 ≤ S.2 3 0 → K (.ref 1000018) S) ∧ (¬ 30 ≤ S.2 3 0 → K (.ref 1000017) S))) ∧ ((S.2 3 0) = 7 → ((30 ≤ S.2 3 0 → K (.ref 1000018) S) ∧ (¬ 30 ≤ S.2 3 0 → K (.ref 1000017) S))) ∧ ((S.2 3 0) = 8 → ((30 ≤ S.2 3 0 → K (.ref 1000018) S) ∧ (¬ 30 ≤ S.2 3 0 → K (.ref 1000017) S))) ∧ ((S.2 3 0) = 9 → ((30 ≤ S.2 3 0 → K (.ref 1000018) S) ∧ (¬ 30 ≤ S.2 3 0 → K (.ref 1000017) S))) ∧ ((S.2 3 0) = 10 → ((30 ≤ S.2 3 0 → K (.ref 1000018) S) ∧ (¬ 30 ≤ S.2 3 0 → K (.ref 1000017) S))) ∧ ((S.2 3 0) = 11 → ((30 ≤ S.2 3 0 → K (.ref 1000018) S) ∧ (¬ 30 ≤ S.2 3 0 → K (.ref 1000017) S))) ∧ ((S.2 3 0) = 12 → ((30 ≤ S.2 3 0 → K (.ref 1000018) S) ∧ (¬ 30 ≤ S.2 3 0 → K (.ref 1000017) S))) ∧ ((S.2 3 0) = 13 → ((30 ≤ S.2 3 0 → K (.ref 1000018) S) ∧ (¬ 30 ≤ S.2 3 0 → K (.ref 1000017) S))) ∧ ((S.2 3 0) = 14 → ((30 ≤ S.2 3 0 → K (.ref 1000018) S) ∧ (¬ 30 ≤ S.2 3 0 → K (.ref 1000017) S))) ∧ ((S.2 3 0) = 15 → ((30 ≤ S.2 3 0 → K (.ref 1000018) S) ∧ (¬ 30 ≤ S.2 3 0 → K (.ref 1000017) S))) ∧ ((S.2 3 0) = 16 → ((30 ≤ S.2 3 0 → K (.ref 1000018) S) ∧ (¬ 30 ≤ S.2 3 0 → K (.ref 1000017) S))) ∧ ((S.2 3 0) = 17 → ((30 ≤ S.2 3 0 → K (.ref 1000018) S) ∧ (¬ 30 ≤ S.2 3 0 → K (.ref 1000017) S))) ∧ ((S.2 3 0) = 18 → ((30 ≤ S.2 3 0 → K (.ref 1000018) S) ∧ (¬ 30 ≤ S.2 3 0 → K (.ref 1000017) S))) ∧ ((S.2 3 0) = 19 → ((30 ≤ S.2 3 0 → K (.ref 1000018) S) ∧ (¬ 30 ≤ S.2 3 0 → K (.ref 1000017) S))) ∧ ((S.2 3 0) = 20 → ((30 ≤ S.2 3 0 → K (.ref 1000018) S) ∧ (¬ 30 ≤ S.2 3 0 → K (.ref 1000017) S))) ∧ ((S.2 3 0) = 21 → ((30 ≤ S.2 3 0 → K (.ref 1000018) S) ∧ (¬ 30 ≤ S.2 3 0 → K (.ref 1000017) S))) ∧ ((S.2 3 0) = 22 → ((30 ≤ S.2 3 0 → K (.ref 1000018) S) ∧ (¬ 30 ≤ S.2 3 0 → K (.ref 1000017) S))) ∧ ((S.2 3 0) = 23 → ((30 ≤ S.2 3 0 → K (.ref 1000018) S) ∧ (¬ 30 ≤ S.2 3 0 → K (.ref 1000017) S))) ∧ ((S.2 3 0) = 24 → ((30 ≤ S.2 3 0 → K (.ref 1000018) S) ∧ (¬ 30 ≤ S.2 3 0 → K (.ref 1000017) S))) ∧ ((S.2 3 0) = 25 → K (.ref 1000002) S) ∧ ((S.2 3 0) = 26 → K (.ref 1000003) S) ∧ ((S.2 3 0) = 27 → ((30 ≤ S.2 3 0 → K (.ref 1000018) S) ∧ (¬ 30 ≤ S.2 3 0 → K (.ref 1000017) S))) ∧ ((S.2 3 0) = 28 → K (.ref 1000004) S) ∧ ((S.2 3 0) = 29 → ((30 ≤ S.2 3 0 → K (.ref 1000018) S) ∧ (¬ 30 ≤ S.2 3 0 → K (.ref 1000017) S))) ∧ ((S.2 3 0) = 30 → ((30 ≤ S.2 3 0 → K (.ref 1000018) S) ∧ (¬ 30 ≤ S.2 3 0 → K (.ref 1000017) S))) ∧ ((S.2 3 0) = 31 → ((30 ≤ S.2 3 0 → K (.ref 1000018) S) ∧ (¬ 30 ≤ S.2 3 0 → K (.ref 1000017) S))) ∧ ((S.2 3 0) = 32 → ((30 ≤ S.2 3 0 → K (.ref 1000018) S) ∧ (¬ 30 ≤ S.2 3 0 → K (.ref 1000017) S))) ∧ ((S.2 3 0) = 33 → ((30 ≤ S.2 3 0 → K (.ref 1000018) S) ∧ (¬ 30 ≤ S.2 3 0 → K (.ref 1000017) S))) ∧ ((S.2 3 0) = 34 → ((30 ≤ S.2 3 0 → K (.ref 1000018) S) ∧ (¬ 30 ≤ S.2 3 0 → K (.ref 1000017) S))) ∧ ((S.2 3 0) = 35 → ((30 ≤ S.2 3 0 → K (.ref 1000018) S) ∧ (¬ 30 ≤ S.2 3 0 → K (.ref 1000017) S))) ∧ ((S.2 3 0) = 36 → ((30 ≤ S.2 3 0 → K (.ref 1000018) S) ∧ (¬ 30 ≤ S.2 3 0 → K (.ref 1000017) S))) ∧ ((S.2 3 0) = 37 → ((30 ≤ S.2 3 0 → K (.ref 1000018) S) ∧ (¬ 30 ≤ S.2 3 0 → K (.ref 1000017) S))) ∧ ((S.2 3 0) = 38 → ((30 ≤ S.2 3 0 → K (.ref 1000018) S) ∧ (¬ 30 ≤ S.2 3 0 → K (.ref 1000017) S))) ∧ ((S.2 3 0) = 39 → ((30 ≤ S.2 3 0 → K (.ref 1000018) S) ∧ (¬ 30 ≤ S.2 3 0 → K (.ref 1000017) S))) ∧ ((S.2 3 0) = 40 → ((30 ≤ S.2 3 0 → K (.ref 1000018) S) ∧ (¬ 30 ≤ S.2 3 0 → K (.ref 1000017) S))) ∧ ((S.2 3 0) = 41 → ((30 ≤ S.2 3 0 → K (.ref 1000018) S) ∧ (¬ 30 ≤ S.2 3 0 → K (.ref 1000017) S))) ∧ ((S.2 3 0) = 42 → ((30 ≤ S.2 3 0 → K (.ref 1000018) S) ∧ (¬ 30 ≤ S.2 3 0 → K (.ref 1000017) S))) ∧ ((S.2 3 0) = 43 → ((30 ≤ S.2 3 0 → K (.ref 1000018) S) ∧ (¬ 30 ≤ S.2 3 0 → K (.ref 1000017) S))) ∧ ((S.2 3 0) = 44 → ((30 ≤ S.2 3 0 → K (.ref 1000018) S) ∧ (¬ 30 ≤ S.2 3 0 → K (.ref 1000017) S))) ∧ ((S.2 3 0) = 45 → ((30 ≤ S.2 3 0 → K (.ref 1000018) S) ∧ (¬ 30 ≤ S.2 3 0 → K (.ref 1000017) S))) ∧ ((S.2 3 0) = 46 → ((30 ≤ S.2 3 0 → K (.ref 1000018) S) ∧ (¬ 30 ≤ S.2 3 0 → K (.ref 1000017) S))) ∧ ((S.2 3 0) = 47 → ((30 ≤ S.2 3 0 → K (.ref 1000018) S) ∧ (¬ 30 ≤ S.2 3 0 → K (.ref 1000017) S))) ∧ ((S.2 3 0) = 48 → ((30 ≤ S.2 3 0 → K (.ref 1000018) S) ∧ (¬ 30 ≤ S.2 3 0 → K (.ref 1000017) S))) ∧ ((S.2 3 0) = 49 → ((30 ≤ S.2 3 0 → K (.ref 1000018) S) ∧ (¬ 30 ≤ S.2 3 0 → K (.ref 1000017) S))) ∧ ((S.2 3 0) = 50 → ((30 ≤ S.2 3 0 → K (.ref 1000018) S) ∧ (¬ 30 ≤ S.2 3 0 → K (.ref 1000017) S))) ∧ ((S.2 3 0) = 51 → ((30 ≤ S.2 3 0 → K (.ref 1000018) S) ∧ (¬ 30 ≤ S.2 3 0 → K (.ref 1000017) S))) ∧ ((S.2 3 0) = 52 → ((30 ≤ S.2 3 0 → K (.ref 1000018) S) ∧ (¬ 30 ≤ S.2 3 0 → K (.ref 1000017) S))) ∧ ((S.2 3 0) = 53 → ((30 ≤ S.2 3 0 → K (.ref 1000018) S) ∧ (¬ 30 ≤ S.2 3 0 → K (.ref 1000017) S))) ∧ ((S.2 3 0) = 54 → ((30 ≤ S.2 3 0 → K (.ref 1000018) S) ∧ (¬ 30 ≤ S.2 3 0 → K (.ref 1000017) S))) ∧ ((S.2 3 0) = 55 → ((30 ≤ S.2 3 0 → K (.ref 1000018) S) ∧ (¬ 30 ≤ S.2 3 0 → K (.ref 1000017) S))) ∧ ((S.2 3 0) = 56 → ((30 ≤ S.2 3 0 → K (.ref 1000018) S) ∧ (¬ 30 ≤ S.2 3 0 → K (.ref 1000017) S))) ∧ ((S.2 3 0) = 57 → ((30 ≤ S.2 3 0 → K (.ref 1000018) S) ∧ (¬ 30 ≤ S.2 3 0 → K (.ref 1000017) S))) ∧ ((S.2 3 0) = 58 → ((30 ≤ S.2 3 0 → K (.ref 1000018) S) ∧ (¬ 30 ≤ S.2 3 0 → K (.ref 1000017) S))) ∧ ((S.2 3 0) = 59 → ((30 ≤ S.2 3 0 → K (.ref 1000018) S) ∧ (¬ 30 ≤ S.2 3 0 → K (.ref 1000017) S))) ∧ ((S.2 3 0) = 60 → K (.ref 1000005) S) ∧ ((S.2 3 0) = 61 → K (.ref 1000006) S) ∧ ((S.2 3 0) = 62 → K (.ref 1000007) S) ∧ ((S.2 3 0) = 63 → K (.ref 1000008) S) ∧ ((S.2 3 0) = 64 → K (.ref 1000009) S) ∧ ((S.2 3 0) = 65 → K (.ref 1000010) S) ∧ ((S.2 3 0) = 66 → K (.ref 1000011) S) ∧ ((S.2 3 0) = 67 → ((30 ≤ S.2 3 0 → K (.ref 1000018) S) ∧ (¬ 30 ≤ S.2 3 0 → K (.ref 1000017) S))) ∧ ((S.2 3 0) = 68 → ((30 ≤ S.2 3 0 → K (.ref 1000018) S) ∧ (¬ 30 ≤ S.2 3 0 → K (.ref 1000017) S))) ∧ ((S.2 3 0) = 69 → ((30 ≤ S.2 3 0 → K (.ref 1000018) S) ∧ (¬ 30 ≤ S.2 3 0 → K (.ref 1000017) S))) ∧ ((S.2 3 0) = 70 → K (.ref 1000012) S) ∧ ((S.2 3 0) = 71 → K (.ref 1000013) S) ∧ ((S.2 3 0) = 72 → K (.ref 1000014) S) ∧ ((S.2 3 0) = 73 → K (.ref 1000015) S) ∧ ((S.2 3 0) = 74 → K (.ref 1000016) S))) : rz mStatus_words 0 [(0, .ref 3)] [] S (rz_r K) := by
  refine rz_pure (pc' := 1) d_Status_words_0 rfl ?_
  refine rz_getiv (v := S.2 3 0) d_Status_words_1 f_9_9 rfl rfl rfl ?_
  refine rz_tsw (n := 75) (lo := 0) (tgt := 371) d_Status_words_4 rfl rfl (fun b0 => ?_) (fun j hj hx => ?_)
  · skip
    refine rz_pure (pc' := 372) d_Status_words_371 rfl ?_
    refine rz_getiv (v := S.2 3 0) d_Status_words_372 f_9_9 rfl rfl rfl ?_
    refine rz_bipush (v := 30) d_Status_words_375 (by decide) ?_
    refine rz_icmpge (tgt := 385) d_Status_words_377 rfl (fun b1 => ?_) (fun b1 => ?_)
    · skip
      refine rz_ldct (k := 1000018) d_Status_words_385 rfl ?_
      exact rz_aret d_Status_words_387 rfl ⟨_, rfl, ((w.1 b0).1 b1)⟩
    · skip
      refine rz_ldct (k := 1000017) d_Status_words_380 rfl ?_
      refine rz_pure (pc' := 387) d_Status_words_382 rfl ?_
      exact rz_aret d_Status_words_387 rfl ⟨_, rfl, ((w.1 b0).2 b1)⟩
  · match j, hj with
    | 0, _ =>
      replace hx := hx.trans (show Int32.ofInt ((0 : Int) + ((0 : Nat) : Int)) = 0 from by decide)
      refine rz_tsj (tgt := 320) d_Status_words_4 hx rfl ?_
      refine rz_ldct (k := 1000000) d_Status_words_320 rfl ?_
      exact rz_aret d_Status_words_322 rfl ⟨_, rfl, (w.2.1 hx)⟩
    | 1, _ =>
      replace hx := hx.trans (show Int32.ofInt ((0 : Int) + ((1 : Nat) : Int)) = 1 from by decide)
      refine rz_tsj (tgt := 323) d_Status_words_4 hx rfl ?_
      refine rz_ldct (k := 1000001) d_Status_words_323 rfl ?_
      exact rz_aret d_Status_words_325 rfl ⟨_, rfl, (w.2.2.1 hx)⟩
    | 2, _ =>
      replace hx := hx.trans (show Int32.ofInt ((0 : Int) + ((2 : Nat) : Int)) = 2 from by decide)
      refine rz_tsj (tgt := 371) d_Status_words_4 hx rfl ?_
      refine rz_pure (pc' := 372) d_Status_words_371 rfl ?_
      refine rz_getiv (v := S.2 3 0) d_Status_words_372 f_9_9 rfl rfl rfl ?_
      refine rz_bipush (v := 30) d_Status_words_375 (by decide) ?_
      refine rz_icmpge (tgt := 385) d_Status_words_377 rfl (fun b2 => ?_) (fun b2 => ?_)
      · skip
        refine rz_ldct (k := 1000018) d_Status_words_385 rfl ?_
        exact rz_aret d_Status_words_387 rfl ⟨_, rfl, ((w.2.2.2.1 hx).1 b2)⟩
      · skip
        refine rz_ldct (k := 1000017) d_Status_words_380 rfl ?_
        refine rz_pure (pc' := 387) d_Status_words_382 rfl ?_
        exact rz_aret d_Status_words_387 rfl ⟨_, rfl, ((w.2.2.2.1 hx).2 b2)⟩
    | 3, _ =>
      replace hx := hx.trans (show Int32.ofInt ((0 : Int) + ((3 : Nat) : Int)) = 3 from by decide)
      refine rz_tsj (tgt := 371) d_Status_words_4 hx rfl ?_
      refine rz_pure (pc' := 372) d_Status_words_371 rfl ?_
      refine rz_getiv (v := S.2 3 0) d_Status_words_372 f_9_9 rfl rfl rfl ?_
      refine rz_bipush (v := 30) d_Status_words_375 (by decide) ?_
      refine rz_icmpge (tgt := 385) d_Status_words_377 rfl (fun b3 => ?_) (fun b3 => ?_)
      · skip
        refine rz_ldct (k := 1000018) d_Status_words_385 rfl ?_
        exact rz_aret d_Status_words_387 rfl ⟨_, rfl, ((w.2.2.2.2.1 hx).1 b3)⟩
      · skip
        refine rz_ldct (k := 1000017) d_Status_words_380 rfl ?_
        refine rz_pure (pc' := 387) d_Status_words_382 rfl ?_
        exact rz_aret d_Status_words_387 rfl ⟨_, rfl, ((w.2.2.2.2.1 hx).2 b3)⟩
    | 4, _ =>
      replace hx := hx.trans (show Int32.ofInt ((0 : Int) + ((4 : Nat) : Int)) = 4 from by decide)
      refine rz_tsj (tgt := 371) d_Status_words_4 hx rfl ?_
      refine rz_pure (pc' := 372) d_Status_words_371 rfl ?_
      refine rz_getiv (v := S.2 3 0) d_Status_words_372 f_9_9 rfl rfl rfl ?_
      refine rz_bipush (v := 30) d_Status_words_375 (by decide) ?_
      refine rz_icmpge (tgt := 385) d_Status_words_377 rfl (fun b4 => ?_) (fun b4 => ?_)
      · skip
        refine rz_ldct (k := 1000018) d_Status_words_385 rfl ?_
        exact rz_aret d_Status_words_387 rfl ⟨_, rfl, ((w.2.2.2.2.2.1 hx).1 b4)⟩
      · skip
        refine rz_ldct (k := 1000017) d_Status_words_380 rfl ?_
        refine rz_pure (pc' := 387) d_Status_words_382 rfl ?_
        exact rz_aret d_Status_words_387 rfl ⟨_, rfl, ((w.2.2.2.2.2.1 hx).2 b4)⟩
    | 5, _ =>
      replace hx := hx.trans (show Int32.ofInt ((0 : Int) + ((5 : Nat) : Int)) = 5 from by decide)
      refine rz_tsj (tgt := 371) d_Status_words_4 hx rfl ?_
      refine rz_pure (pc' := 372) d_Status_words_371 rfl ?_
      refine rz_getiv (v := S.2 3 0) d_Status_words_372 f_9_9 rfl rfl rfl ?_
      refine rz_bipush (v := 30) d_Status_words_375 (by decide) ?_
      refine rz_icmpge (tgt := 385) d_Status_words_377 rfl (fun b5 => ?_) (fun b5 => ?_)
      · skip
        refine rz_ldct (k := 1000018) d_Status_words_385 rfl ?_
        exact rz_aret d_Status_words_387 rfl ⟨_, rfl, ((w.2.2.2.2.2.2.1 hx).1 b5)⟩
      · skip
        refine rz_ldct (k := 1000017) d_Status_words_380 rfl ?_
        refine rz_pure (pc' := 387) d_Status_words_382 rfl ?_
        exact rz_aret d_Status_words_387 rfl ⟨_, rfl, ((w.2.2.2.2.2.2.1 hx).2 b5)⟩
    | 6, _ =>
      replace hx := hx.trans (show Int32.ofInt ((0 : Int) + ((6 : Nat) : Int)) = 6 from by decide)
      refine rz_tsj (tgt := 371) d_Status_words_4 hx rfl ?_
      refine rz_pure (pc' := 372) d_Status_words_371 rfl ?_
      refine rz_getiv (v := S.2 3 0) d_Status_words_372 f_9_9 rfl rfl rfl ?_
      refine rz_bipush (v := 30) d_Status_words_375 (by decide) ?_
      refine rz_icmpge (tgt := 385) d_Status_words_377 rfl (fun b6 => ?_) (fun b6 => ?_)
      · skip
        refine rz_ldct (k := 1000018) d_Status_words_385 rfl ?_
        exact rz_aret d_Status_words_387 rfl ⟨_, rfl, ((w.2.2.2.2.2.2.2.1 hx).1 b6)⟩
      · skip
        refine rz_ldct (k := 1000017) d_Status_words_380 rfl ?_
        refine rz_pure (pc' := 387) d_Status_words_382 rfl ?_
        exact rz_aret d_Status_words_387 rfl ⟨_, rfl, ((w.2.2.2.2.2.2.2.1 hx).2 b6)⟩
    | 7, _ =>
      replace hx := hx.trans (show Int32.ofInt ((0 : Int) + ((7 : Nat) : Int)) = 7 from by decide)
      refine rz_tsj (tgt := 371) d_Status_words_4 hx rfl ?_
      refine rz_pure (pc' := 372) d_Status_words_371 rfl ?_
      refine rz_getiv (v := S.2 3 0) d_Status_words_372 f_9_9 rfl rfl rfl ?_
      refine rz_bipush (v := 30) d_Status_words_375 (by decide) ?_
      refine rz_icmpge (tgt := 385) d_Status_words_377 rfl (fun b7 => ?_) (fun b7 => ?_)
      · skip
        refine rz_ldct (k := 1000018) d_Status_words_385 rfl ?_
        exact rz_aret d_Status_words_387 rfl ⟨_, rfl, ((w.2.2.2.2.2.2.2.2.1 hx).1 b7)⟩
      · skip
        refine rz_ldct (k := 1000017) d_Status_words_380 rfl ?_
        refine rz_pure (pc' := 387) d_Status_words_382 rfl ?_
        exact rz_aret d_Status_words_387 rfl ⟨_, rfl, ((w.2.2.2.2.2.2.2.2.1 hx).2 b7)⟩
    | 8, _ =>
      replace hx := hx.trans (show Int32.ofInt ((0 : Int) + ((8 : Nat) : Int)) = 8 from by decide)
      refine rz_tsj (tgt := 371) d_Status_words_4 hx rfl ?_
      refine rz_pure (pc' := 372) d_Status_words_371 rfl ?_
      refine rz_getiv (v := S.2 3 0) d_Status_words_372 f_9_9 rfl rfl rfl ?_
      refine rz_bipush (v := 30) d_Status_words_375 (by decide) ?_
      refine rz_icmpge (tgt := 385) d_Status_words_377 rfl (fun b8 => ?_) (fun b8 => ?_)
      · skip
        refine rz_ldct (k := 1000018) d_Status_words_385 rfl ?_
        exact rz_aret d_Status_words_387 rfl ⟨_, rfl, ((w.2.2.2.2.2.2.2.2.2.1 hx).1 b8)⟩
      · skip
        refine rz_ldct (k := 1000017) d_Status_words_380 rfl ?_
        refine rz_pure (pc' := 387) d_Status_words_382 rfl ?_
        exact rz_aret d_Status_words_387 rfl ⟨_, rfl, ((w.2.2.2.2.2.2.2.2.2.1 hx).2 b8)⟩
    | 9, _ =>
      replace hx := hx.trans (show Int32.ofInt ((0 : Int) + ((9 : Nat) : Int)) = 9 from by decide)
      refine rz_tsj (tgt := 371) d_Status_words_4 hx rfl ?_
      refine rz_pure (pc' := 372) d_Status_words_371 rfl ?_
      refine rz_getiv (v := S.2 3 0) d_Status_words_372 f_9_9 rfl rfl rfl ?_
      refine rz_bipush (v := 30) d_Status_words_375 (by decide) ?_
      refine rz_icmpge (tgt := 385) d_Status_words_377 rfl (fun b9 => ?_) (fun b9 => ?_)
      · skip
        refine rz_ldct (k := 1000018) d_Status_words_385 rfl ?_
        exact rz_aret d_Status_words_387 rfl ⟨_, rfl, ((w.2.2.2.2.2.2.2.2.2.2.1 hx).1 b9)⟩
      · skip
        refine rz_ldct (k := 1000017) d_Status_words_380 rfl ?_
        refine rz_pure (pc' := 387) d_Status_words_382 rfl ?_
        exact rz_aret d_Status_words_387 rfl ⟨_, rfl, ((w.2.2.2.2.2.2.2.2.2.2.1 hx).2 b9)⟩
    | 10, _ =>
      replace hx := hx.trans (show Int32.ofInt ((0 : Int) + ((10 : Nat) : Int)) = 10 from by decide)
      refine rz_tsj (tgt := 371) d_Status_words_4 hx rfl ?_
      refine rz_pure (pc' := 372) d_Status_words_371 rfl ?_
      refine rz_getiv (v := S.2 3 0) d_Status_words_372 f_9_9 rfl rfl rfl ?_
      refine rz_bipush (v := 30) d_Status_words_375 (by decide) ?_
      refine rz_icmpge (tgt := 385) d_Status_words_377 rfl (fun b10 => ?_) (fun b10 => ?_)
      · skip
        refine rz_ldct (k := 1000018) d_Status_words_385 rfl ?_
        exact rz_aret d_Status_words_387 rfl ⟨_, rfl, ((w.2.2.2.2.2.2.2.2.2.2.2.1 hx).1 b10)⟩
      · skip
        refine rz_ldct (k := 1000017) d_Status_words_380 rfl ?_
        refine rz_pure (pc' := 387) d_Status_words_382 rfl ?_
        exact rz_aret d_Status_words_387 rfl ⟨_, rfl, ((w.2.2.2.2.2.2.2.2.2.2.2.1 hx).2 b10)⟩
    | 11, _ =>
      replace hx := hx.trans (show Int32.ofInt ((0 : Int) + ((11 : Nat) : Int)) = 11 from by decide)
      refine rz_tsj (tgt := 371) d_Status_words_4 hx rfl ?_
      refine rz_pure (pc' := 372) d_Status_words_371 rfl ?_
      refine rz_getiv (v := S.2 3 0) d_Status_words_372 f_9_9 rfl rfl rfl ?_
      refine rz_bipush (v := 30) d_Status_words_375 (by decide) ?_
      refine rz_icmpge (tgt := 385) d_Status_words_377 rfl (fun b11 => ?_) (fun b11 => ?_)
      · skip
        refine rz_ldct (k := 1000018) d_Status_words_385 rfl ?_
        exact rz_aret d_Status_words_387 rfl ⟨_, rfl, ((w.2.2.2.2.2.2.2.2.2.2.2.2.1 hx).1 b11)⟩
      · skip
        refine rz_ldct (k := 1000017) d_Status_words_380 rfl ?_
        refine rz_pure (pc' := 387) d_Status_words_382 rfl ?_
        exact rz_aret d_Status_words_387 rfl ⟨_, rfl, ((w.2.2.2.2.2.2.2.2.2.2.2.2.1 hx).2 b11)⟩
    | 12, _ =>
      replace hx := hx.trans (show Int32.ofInt ((0 : Int) + ((12 : Nat) : Int)) = 12 from by decide)
      refine rz_tsj (tgt := 371) d_Status_words_4 hx rfl ?_
      refine rz_pure (pc' := 372) d_Status_words_371 rfl ?_
      refine rz_getiv (v := S.2 3 0) d_Status_words_372 f_9_9 rfl rfl rfl ?_
      refine rz_bipush (v := 30) d_Status_words_375 (by decide) ?_
      refine rz_icmpge (tgt := 385) d_Status_words_377 rfl (fun b12 => ?_) (fun b12 => ?_)
      · skip
        refine rz_ldct (k := 1000018) d_Status_words_385 rfl ?_
        exact rz_aret d_Status_words_387 rfl ⟨_, rfl, ((w.2.2.2.2.2.2.2.2.2.2.2.2.2.1 hx).1 b12)⟩
      · skip
        refine rz_ldct (k := 1000017) d_Status_words_380 rfl ?_
        refine rz_pure (pc' := 387) d_Status_words_382 rfl ?_
        exact rz_aret d_Status_words_387 rfl ⟨_, rfl, ((w.2.2.2.2.2.2.2.2.2.2.2.2.2.1 hx).2 b12)⟩
    | 13, _ =>
      replace hx := hx.trans (show Int32.ofInt ((0 : Int) + ((13 : Nat) : Int)) = 13 from by decide)
      refine rz_tsj (tgt := 371) d_Status_words_4 hx rfl ?_
      refine rz_pure (pc' := 372) d_Status_words_371 rfl ?_
      refine rz_getiv (v := S.2 3 0) d_Status_words_372 f_9_9 rfl rfl rfl ?_
      refine rz_bipush (v := 30) d_Status_words_375 (by decide) ?_
      refine rz_icmpge (tgt := 385) d_Status_words_377 rfl (fun b13 => ?_) (fun b13 => ?_)
      · skip
        refine rz_ldct (k := 1000018) d_Status_words_385 rfl ?_
        exact rz_aret d_Status_words_387 rfl ⟨_, rfl, ((w.2.2.2.2.2.2.2.2.2.2.2.2.2.2.1 hx).1 b13)⟩
      · skip
        refine rz_ldct (k := 1000017) d_Status_words_380 rfl ?_
        refine rz_pure (pc' := 387) d_Status_words_382 rfl ?_
        exact rz_aret d_Status_words_387 rfl ⟨_, rfl, ((w.2.2.2.2.2.2.2.2.2.2.2.2.2.2.1 hx).2 b13)⟩
    | 14, _ =>
      replace hx := hx.trans (show Int32.ofInt ((0 : Int) + ((14 : Nat) : Int)) = 14 from by decide)
      refine rz_tsj (tgt := 371) d_Status_words_4 hx rfl ?_
      refine rz_pure (pc' := 372) d_Status_words_371 rfl ?_
      refine rz_getiv (v := S.2 3 0) d_Status_words_372 f_9_9 rfl rfl rfl ?_
      refine rz_bipush (v := 30) d_Status_words_375 (by decide) ?_
      refine rz_icmpge (tgt := 385) d_Status_words_377 rfl (fun b14 => ?_) (fun b14 => ?_)
      · skip
        refine rz_ldct (k := 1000018) d_Status_words_385 rfl ?_
        exact rz_aret d_Status_words_387 rfl ⟨_, rfl, ((w.2.2.2.2.2.2.2.2.2.2.2.2.2.2.2.1 hx).1 b14)⟩
      · skip
        refine rz_ldct (k := 1000017) d_Status_words_380 rfl ?_
        refine rz_pure (pc' := 387) d_Status_words_382 rfl ?_
        exact rz_aret d_Status_words_387 rfl ⟨_, rfl, ((w.2.2.2.2.2.2.2.2.2.2.2.2.2.2.2.1 hx).2 b14)⟩
    | 15, _ =>
      replace hx := hx.trans (show Int32.ofInt ((0 : Int) + ((15 : Nat) : Int)) = 15 from by decide)
      refine rz_tsj (tgt := 371) d_Status_words_4 hx rfl ?_
      refine rz_pure (pc' := 372) d_Status_words_371 rfl ?_
      refine rz_getiv (v := S.2 3 0) d_Status_words_372 f_9_9 rfl rfl rfl ?_
      refine rz_bipush (v := 30) d_Status_words_375 (by decide) ?_
      refine rz_icmpge (tgt := 385) d_Status_words_377 rfl (fun b15 => ?_) (fun b15 => ?_)
      · skip
        refine rz_ldct (k := 1000018) d_Status_words_385 rfl ?_
        exact rz_aret d_Status_words_387 rfl ⟨_, rfl, ((w.2.2.2.2.2.2.2.2.2.2.2.2.2.2.2.2.1 hx).1 b15)⟩
      · skip
        refine rz_ldct (k := 1000017) d_Status_words_380 rfl ?_
        refine rz_pure (pc' := 387) d_Status_words_382 rfl ?_
        exact rz_aret d_Status_words_387 rfl ⟨_, rfl, ((w.2.2.2.2.2.2.2.2.2.2.2.2.2.2.2.2.1 hx).2 b15)⟩
    | 16, _ =>
      replace hx := hx.trans (show Int32.ofInt ((0 : Int) + ((16 : Nat) : Int)) = 16 from by decide)
      refine rz_tsj (tgt := 371) d_Status_words_4 hx rfl ?_
      refine rz_pure (pc' := 372) d_Status_words_371 rfl ?_
      refine rz_getiv (v := S.2 3 0) d_Status_words_372 f_9_9 rfl rfl rfl ?_
      refine rz_bipush (v := 30) d_Status_words_375 (by decide) ?_
      refine rz_icmpge (tgt := 385) d_Status_words_377 rfl (fun b16 => ?_) (fun b16 => ?_)
      · skip
        refine rz_ldct (k := 1000018) d_Status_words_385 rfl ?_
        exact rz_aret d_Status_words_387 rfl ⟨_, rfl, ((w.2.2.2.2.2.2.2.2.2.2.2.2.2.2.2.2.2.1 hx).1 b16)⟩
      · skip
        refine rz_ldct (k := 1000017) d_Status_words_380 rfl ?_
        refine rz_pure (pc' := 387) d_Status_words_382 rfl ?_
        exact rz_aret d_Status_words_387 rfl ⟨_, rfl, ((w.2.2.2.2.2.2.2.2.2.2.2.2.2.2.2.2.2.1 hx).2 b16)⟩
    | 17, _ =>
      replace hx := hx.trans (show Int32.ofInt ((0 : Int) + ((17 : Nat) : Int)) = 17 from by decide)
      refine rz_tsj (tgt := 371) d_Status_words_4 hx rfl ?_
      refine rz_pure (pc' := 372) d_Status_words_371 rfl ?_
      refine rz_getiv (v := S.2 3 0) d_Status_words_372 f_9_9 rfl rfl rfl ?_
      refine rz_bipush (v := 30) d_Status_words_375 (by decide) ?_
      refine rz_icmpge (tgt := 385) d_Status_words_377 rfl (fun b17 => ?_) (fun b17 => ?_)
      · skip
        refine rz_ldct (k := 1000018) d_Status_words_385 rfl ?_
        exact rz_aret d_Status_words_387 rfl ⟨_, rfl, ((w.2.2.2.2.2.2.2.2.2.2.2.2.2.2.2.2.2.2.1 hx).1 b17)⟩
      · skip
        refine rz_ldct (k := 1000017) d_Status_words_380 rfl ?_
        refine rz_pure (pc' := 387) d_Status_words_382 rfl ?_
        exact rz_aret d_Status_words_387 rfl ⟨_, rfl, ((w.2.2.2.2.2.2.2.2.2.2.2.2.2.2.2.2.2.2.1 hx).2 b17)⟩
    | 18, _ =>
      replace hx := hx.trans (show Int32.ofInt ((0 : Int) + ((18 : Nat) : Int)) = 18 from by decide)
      refine rz_tsj (tgt := 371) d_Status_words_4 hx rfl ?_
      refine rz_pure (pc' := 372) d_Status_words_371 rfl ?_
      refine rz_getiv (v := S.2 3 0) d_Status_words_372 f_9_9 rfl rfl rfl ?_
      refine rz_bipush (v := 30) d_Status_words_375 (by decide) ?_
      refine rz_icmpge (tgt := 385) d_Status_words_377 rfl (fun b18 => ?_) (fun b18 => ?_)
      · skip
        refine rz_ldct (k := 1000018) d_Status_words_385 rfl ?_
        exact rz_aret d_Status_words_387 rfl ⟨_, rfl, ((w.2.2.2.2.2.2.2.2.2.2.2.2.2.2.2.2.2.2.2.1 hx).1 b18)⟩
      · skip
        refine rz_ldct (k := 1000017) d_Status_words_380 rfl ?_
        refine rz_pure (pc' := 387) d_Status_words_382 rfl ?_
        exact rz_aret d_Status_words_387 rfl ⟨_, rfl, ((w.2.2.2.2.2.2.2.2.2.2.2.2.2.2.2.2.2.2.2.1 hx).2 b18)⟩
    | 19, _ =>
      replace hx := hx.trans (show Int32.ofInt ((0 : Int) + ((19 : Nat) : Int)) = 19 from by decide)
      refine rz_tsj (tgt := 371) d_Status_words_4 hx rfl ?_
      refine rz_pure (pc' := 372) d_Status_words_371 rfl ?_
      refine rz_getiv (v := S.2 3 0) d_Status_words_372 f_9_9 rfl rfl rfl ?_
      refine rz_bipush (v := 30) d_Status_words_375 (by decide) ?_
      refine rz_icmpge (tgt := 385) d_Status_words_377 rfl (fun b19 => ?_) (fun b19 => ?_)
      · skip
        refine rz_ldct (k := 1000018) d_Status_words_385 rfl ?_
        exact rz_aret d_Status_words_387 rfl ⟨_, rfl, ((w.2.2.2.2.2.2.2.2.2.2.2.2.2.2.2.2.2.2.2.2.1 hx).1 b19)⟩
      · skip
        refine rz_ldct (k := 1000017) d_Status_words_380 rfl ?_
        refine rz_pure (pc' := 387) d_Status_words_382 rfl ?_
        exact rz_aret d_Status_words_387 rfl ⟨_, rfl, ((w.2.2.2.2.2.2.2.2.2.2.2.2.2.2.2.2.2.2.2.2.1 hx).2 b19)⟩
    | 20, _ =>
      replace hx := hx.trans (show Int32.ofInt ((0 : Int) + ((20 : Nat) : Int)) = 20 from by decide)
      refine rz_tsj (tgt := 371) d_Status_words_4 hx rfl ?_
      refine rz_pure (pc' := 372) d_Status_words_371 rfl ?_
      refine rz_getiv (v := S.2 3 0) d_Status_words_372 f_9_9 rfl rfl rfl ?_
      refine rz_bipush (v := 30) d_Status_words_375 (by decide) ?_
      refine rz_icmpge (tgt := 385) d_Status_words_377 rfl (fun b20 => ?_) (fun b20 => ?_)
      · skip
        refine rz_ldct (k := 1000018) d_Status_words_385 rfl ?_
        exact rz_aret d_Status_words_387 rfl ⟨_, rfl, ((w.2.2.2.2.2.2.2.2.2.2.2.2.2.2.2.2.2.2.2.2.2.1 hx).1 b20)⟩
      · skip
        refine rz_ldct (k := 1000017) d_Status_words_380 rfl ?_
        refine rz_pure (pc' := 387) d_Status_words_382 rfl ?_
        exact rz_aret d_Status_words_387 rfl ⟨_, rfl, ((w.2.2.2.2.2.2.2.2.2.2.2.2.2.2.2.2.2.2.2.2.2.1 hx).2 b20)⟩
    | 21, _ =>
      replace hx := hx.trans (show Int32.ofInt ((0 : Int) + ((21 : Nat) : Int)) = 21 from by decide)
      refine rz_tsj (tgt := 371) d_Status_words_4 hx rfl ?_
      refine rz_pure (pc' := 372) d_Status_words_371 rfl ?_
      refine rz_getiv (v := S.2 3 0) d_Status_words_372 f_9_9 rfl rfl rfl ?_
      refine rz_bipush (v := 30) d_Status_words_375 (by decide) ?_
      refine rz_icmpge (tgt := 385) d_Status_words_377 rfl (fun b21 => ?_) (fun b21 => ?_)
      · skip
        refine rz_ldct (k := 1000018) d_Status_words_385 rfl ?_
        exact rz_aret d_Status_words_387 rfl ⟨_, rfl, ((w.2.2.2.2.2.2.2.2.2.2.2.2.2.2.2.2.2.2.2.2.2.2.1 hx).1 b21)⟩
      · skip
        refine rz_ldct (k := 1000017) d_Status_words_380 rfl ?_
        refine rz_pure (pc' := 387) d_Status_words_382 rfl ?_
        exact rz_aret d_Status_words_387 rfl ⟨_, rfl, ((w.2.2.2.2.2.2.2.2.2.2.2.2.2.2.2.2.2.2.2.2.2.2.1 hx).2 b21)⟩
    | 22, _ =>
      replace hx := hx.trans (show Int32.ofInt ((0 : Int) + ((22 : Nat) : Int)) = 22 from by decide)
      refine rz_tsj (tgt := 371) d_Status_words_4 hx rfl ?_
      refine rz_pure (pc' := 372) d_Status_words_371 rfl ?_
      refine rz_getiv (v := S.2 3 0) d_Status_words_372 f_9_9 rfl rfl rfl ?_
      refine rz_bipush (v := 30) d_Status_words_375 (by decide) ?_
      refine rz_icmpge (tgt := 385) d_Status_words_377 rfl (fun b22 => ?_) (fun b22 => ?_)
      · skip
        refine rz_ldct (k := 1000018) d_Status_words_385 rfl ?_
        exact rz_aret d_Status_words_387 rfl ⟨_, rfl, ((w.2.2.2.2.2.2.2.2.2.2.2.2.2.2.2.2.2.2.2.2.2.2.2.1 hx).1 b22)⟩
      · skip
        refine rz_ldct (k := 1000017) d_Status_words_380 rfl ?_
        refine rz_pure (pc' := 387) d_Status_words_382 rfl ?_
        exact rz_aret d_Status_words_387 rfl ⟨_, rfl, ((w.2.2.2.2.2.2.2.2.2.2.2.2.2.2.2.2.2.2.2.2.2.2.2.1 hx).2 b22)⟩
    | 23, _ =>
      replace hx := hx.trans (show Int32.ofInt ((0 : Int) + ((23 : Nat) : Int)) = 23 from by decide)
      refine rz_tsj (tgt := 371) d_Status_words_4 hx rfl ?_
      refine rz_pure (pc' := 372) d_Status_words_371 rfl ?_
      refine rz_getiv (v := S.2 3 0) d_Status_words_372 f_9_9 rfl rfl rfl ?_
      refine rz_bipush (v := 30) d_Status_words_375 (by decide) ?_
      refine rz_icmpge (tgt := 385) d_Status_words_377 rfl (fun b23 => ?_) (fun b23 => ?_)
      · skip
        refine rz_ldct (k := 1000018) d_Status_words_385 rfl ?_
        exact rz_aret d_Status_words_387 rfl ⟨_, rfl, ((w.2.2.2.2.2.2.2.2.2.2.2.2.2.2.2.2.2.2.2.2.2.2.2.2.1 hx).1 b23)⟩
      · skip
        refine rz_ldct (k := 1000017) d_Status_words_380 rfl ?_
        refine rz_pure (pc' := 387) d_Status_words_382 rfl ?_
        exact rz_aret d_Status_words_387 rfl ⟨_, rfl, ((w.2.2.2.2.2.2.2.2.2.2.2.2.2.2.2.2.2.2.2.2.2.2.2.2.1 hx).2 b23)⟩
    | 24, _ =>
      replace hx := hx.trans (show Int32.ofInt ((0 : Int) + ((24 : Nat) : Int)) = 24 from by decide)
      refine rz_tsj (tgt := 371) d_Status_words_4 hx rfl ?_
      refine rz_pure (pc' := 372) d_Status_words_371 rfl ?_
      refine rz_getiv (v := S.2 3 0) d_Status_words_372 f_9_9 rfl rfl rfl ?_
      refine rz_bipush (v := 30) d_Status_words_375 (by decide) ?_
      refine rz_icmpge (tgt := 385) d_Status_words_377 rfl (fun b24 => ?_) (fun b24 => ?_)
      · skip
        refine rz_ldct (k := 1000018) d_Status_words_385 rfl ?_
        exact rz_aret d_Status_words_387 rfl ⟨_, rfl, ((w.2.2.2.2.2.2.2.2.2.2.2.2.2.2.2.2.2.2.2.2.2.2.2.2.2.1 hx).1 b24)⟩
      · skip
        refine rz_ldct (k := 1000017) d_Status_words_380 rfl ?_
        refine rz_pure (pc' := 387) d_Status_words_382 rfl ?_
        exact rz_aret d_Status_words_387 rfl ⟨_, rfl, ((w.2.2.2.2.2.2.2.2.2.2.2.2.2.2.2.2.2.2.2.2.2.2.2.2.2.1 hx).2 b24)⟩
    | 25, _ =>
      replace hx := hx.trans (show Int32.ofInt ((0 : Int) + ((25 : Nat) : Int)) = 25 from by decide)
      refine rz_tsj (tgt := 326) d_Status_words_4 hx rfl ?_
      refine rz_ldct (k := 1000002) d_Status_words_326 rfl ?_
      exact rz_aret d_Status_words_328 rfl ⟨_, rfl, (w.2.2.2.2.2.2.2.2.2.2.2.2.2.2.2.2.2.2.2.2.2.2.2.2.2.2.1 hx)⟩
    | 26, _ =>
      replace hx := hx.trans (show Int32.ofInt ((0 : Int) + ((26 : Nat) : Int)) = 26 from by decide)
      refine rz_tsj (tgt := 329) d_Status_words_4 hx rfl ?_
      refine rz_ldct (k := 1000003) d_Status_words_329 rfl ?_
      exact rz_aret d_Status_words_331 rfl ⟨_, rfl, (w.2.2.2.2.2.2.2.2.2.2.2.2.2.2.2.2.2.2.2.2.2.2.2.2.2.2.2.1 hx)⟩
    | 27, _ =>
      replace hx := hx.trans (show Int32.ofInt ((0 : Int) + ((27 : Nat) : Int)) = 27 from by decide)
      refine rz_tsj (tgt := 371) d_Status_words_4 hx rfl ?_
      refine rz_pure (pc' := 372) d_Status_words_371 rfl ?_
      refine rz_getiv (v := S.2 3 0) d_Status_words_372 f_9_9 rfl rfl rfl ?_
      refine rz_bipush (v := 30) d_Status_words_375 (by decide) ?_
      refine rz_icmpge (tgt := 385) d_Status_words_377 rfl (fun b25 => ?_) (fun b25 => ?_)
      · skip
        refine rz_ldct (k := 1000018) d_Status_words_385 rfl ?_
        exact rz_aret d_Status_words_387 rfl ⟨_, rfl, ((w.2.2.2.2.2.2.2.2.2.2.2.2.2.2.2.2.2.2.2.2.2.2.2.2.2.2.2.2.1 hx).1 b25)⟩
      · skip
        refine rz_ldct (k := 1000017) d_Status_words_380 rfl ?_
        refine rz_pure (pc' := 387) d_Status_words_382 rfl ?_
        exact rz_aret d_Status_words_387 rfl ⟨_, rfl, ((w.2.2.2.2.2.2.2.2.2.2.2.2.2.2.2.2.2.2.2.2.2.2.2.2.2.2.2.2.1 hx).2 b25)⟩
    | 28, _ =>
      replace hx := hx.trans (show Int32.ofInt ((0 : Int) + ((28 : Nat) : Int)) = 28 from by decide)
      refine rz_tsj (tgt := 332) d_Status_words_4 hx rfl ?_
      refine rz_ldct (k := 1000004) d_Status_words_332 rfl ?_
      exact rz_aret d_Status_words_334 rfl ⟨_, rfl, (w.2.2.2.2.2.2.2.2.2.2.2.2.2.2.2.2.2.2.2.2.2.2.2.2.2.2.2.2.2.1 hx)⟩
    | 29, _ =>
      replace hx := hx.trans (show Int32.ofInt ((0 : Int) + ((29 : Nat) : Int)) = 29 from by decide)
      refine rz_tsj (tgt := 371) d_Status_words_4 hx rfl ?_
      refine rz_pure (pc' := 372) d_Status_words_371 rfl ?_
      refine rz_getiv (v := S.2 3 0) d_Status_words_372 f_9_9 rfl rfl rfl ?_
      refine rz_bipush (v := 30) d_Status_words_375 (by decide) ?_
      refine rz_icmpge (tgt := 385) d_Status_words_377 rfl (fun b26 => ?_) (fun b26 => ?_)
      · skip
        refine rz_ldct (k := 1000018) d_Status_words_385 rfl ?_
        exact rz_aret d_Status_words_387 rfl ⟨_, rfl, ((w.2.2.2.2.2.2.2.2.2.2.2.2.2.2.2.2.2.2.2.2.2.2.2.2.2.2.2.2.2.2.1 hx).1 b26)⟩
      · skip
        refine rz_ldct (k := 1000017) d_Status_words_380 rfl ?_
        refine rz_pure (pc' := 387) d_Status_words_382 rfl ?_
        exact rz_aret d_Status_words_387 rfl ⟨_, rfl, ((w.2.2.2.2.2.2.2.2.2.2.2.2.2.2.2.2.2.2.2.2.2.2.2.2.2.2.2.2.2.2.1 hx).2 b26)⟩
    | 30, _ =>
      replace hx := hx.trans (show Int32.ofInt ((0 : Int) + ((30 : Nat) : Int)) = 30 from by decide)
      refine rz_tsj (tgt := 371) d_Status_words_4 hx rfl ?_
      refine rz_pure (pc' := 372) d_Status_words_371 rfl ?_
      refine rz_getiv (v := S.2 3 0) d_Status_words_372 f_9_9 rfl rfl rfl ?_
      refine rz_bipush (v := 30) d_Status_words_375 (by decide) ?_
      refine rz_icmpge (tgt := 385) d_Status_words_377 rfl (fun b27 => ?_) (fun b27 => ?_)
      · skip
        refine rz_ldct (k := 1000018) d_Status_words_385 rfl ?_
        exact rz_aret d_Status_words_387 rfl ⟨_, rfl, ((w.2.2.2.2.2.2.2.2.2.2.2.2.2.2.2.2.2.2.2.2.2.2.2.2.2.2.2.2.2.2.2.1 hx).1 b27)⟩
      · skip
        refine rz_ldct (k := 1000017) d_Status_words_380 rfl ?_
        refine rz_pure (pc' := 387) d_Status_words_382 rfl ?_
        exact rz_aret d_Status_words_387 rfl ⟨_, rfl, ((w.2.2.2.2.2.2.2.2.2.2.2.2.2.2.2.2.2.2.2.2.2.2.2.2.2.2.2.2.2.2.2.1 hx).2 b27)⟩
    | 31, _ =>
      replace hx := hx.trans (show Int32.ofInt ((0 : Int) + ((31 : Nat) : Int)) = 31 from by decide)
      refine rz_tsj (tgt := 371) d_Status_words_4 hx rfl ?_
      refine rz_pure (pc' := 372) d_Status_words_371 rfl ?_
      refine rz_getiv (v := S.2 3 0) d_Status_words_372 f_9_9 rfl rfl rfl ?_
      refine rz_bipush (v := 30) d_Status_words_375 (by decide) ?_
      refine rz_icmpge (tgt := 385) d_Status_words_377 rfl (fun b28 => ?_) (fun b28 => ?_)
      · skip
        refine rz_ldct (k := 1000018) d_Status_words_385 rfl ?_
        exact rz_aret d_Status_words_387 rfl ⟨_, rfl, ((w.2.2.2.2.2.2.2.2.2.2.2.2.2.2.2.2.2.2.2.2.2.2.2.2.2.2.2.2.2.2.2.2.1 hx).1 b28)⟩
      · skip
        refine rz_ldct (k := 1000017) d_Status_words_380 rfl ?_
        refine rz_pure (pc' := 387) d_Status_words_382 rfl ?_
        exact rz_aret d_Status_words_387 rfl ⟨_, rfl, ((w.2.2.2.2.2.2.2.2.2.2.2.2.2.2.2.2.2.2.2.2.2.2.2.2.2.2.2.2.2.2.2.2.1 hx).2 b28)⟩
    | 32, _ =>
      replace hx := hx.trans (show Int32.ofInt ((0 : Int) + ((32 : Nat) : Int)) = 32 from by decide)
      refine rz_tsj (tgt := 371) d_Status_words_4 hx rfl ?_
      refine rz_pure (pc' := 372) d_Status_words_371 rfl ?_
      refine rz_getiv (v := S.2 3 0) d_Status_words_372 f_9_9 rfl rfl rfl ?_
      refine rz_bipush (v := 30) d_Status_words_375 (by decide) ?_
      refine rz_icmpge (tgt := 385) d_Status_words_377 rfl (fun b29 => ?_) (fun b29 => ?_)
      · skip
        refine rz_ldct (k := 1000018) d_Status_words_385 rfl ?_
        exact rz_aret d_Status_words_387 rfl ⟨_, rfl, ((w.2.2.2.2.2.2.2.2.2.2.2.2.2.2.2.2.2.2.2.2.2.2.2.2.2.2.2.2.2.2.2.2.2.1 hx).1 b29)⟩
      · skip
        refine rz_ldct (k := 1000017) d_Status_words_380 rfl ?_
        refine rz_pure (pc' := 387) d_Status_words_382 rfl ?_
        exact rz_aret d_Status_words_387 rfl ⟨_, rfl, ((w.2.2.2.2.2.2.2.2.2.2.2.2.2.2.2.2.2.2.2.2.2.2.2.2.2.2.2.2.2.2.2.2.2.1 hx).2 b29)⟩
    | 33, _ =>
      replace hx := hx.trans (show Int32.ofInt ((0 : Int) + ((33 : Nat) : Int)) = 33 from by decide)
      refine rz_tsj (tgt := 371) d_Status_words_4 hx rfl ?_
      refine rz_pure (pc' := 372) d_Status_words_371 rfl ?_
      refine rz_getiv (v := S.2 3 0) d_Status_words_372 f_9_9 rfl rfl rfl ?_
      refine rz_bipush (v := 30) d_Status_words_375 (by decide) ?_
      refine rz_icmpge (tgt := 385) d_Status_words_377 rfl (fun b30 => ?_) (fun b30 => ?_)
      · skip
        refine rz_ldct (k := 1000018) d_Status_words_385 rfl ?_
        exact rz_aret d_Status_words_387 rfl ⟨_, rfl, ((w.2.2.2.2.2.2.2.2.2.2.2.2.2.2.2.2.2.2.2.2.2.2.2.2.2.2.2.2.2.2.2.2.2.2.1 hx).1 b30)⟩
      · skip
        refine rz_ldct (k := 1000017) d_Status_words_380 rfl ?_
        refine rz_pure (pc' := 387) d_Status_words_382 rfl ?_
        exact rz_aret d_Status_words_387 rfl ⟨_, rfl, ((w.2.2.2.2.2.2.2.2.2.2.2.2.2.2.2.2.2.2.2.2.2.2.2.2.2.2.2.2.2.2.2.2.2.2.1 hx).2 b30)⟩
    | 34, _ =>
      replace hx := hx.trans (show Int32.ofInt ((0 : Int) + ((34 : Nat) : Int)) = 34 from by decide)
      refine rz_tsj (tgt := 371) d_Status_words_4 hx rfl ?_
      refine rz_pure (pc' := 372) d_Status_words_371 rfl ?_
      refine rz_getiv (v := S.2 3 0) d_Status_words_372 f_9_9 rfl rfl rfl ?_
      refine rz_bipush (v := 30) d_Status_words_375 (by decide) ?_
      refine rz_icmpge (tgt := 385) d_Status_words_377 rfl (fun b31 => ?_) (fun b31 => ?_)
      · skip
        refine rz_ldct (k := 1000018) d_Status_words_385 rfl ?_
        exact rz_aret d_Status_words_387 rfl ⟨_, rfl, ((w.2.2.2.2.2.2.2.2.2.2.2.2.2.2.2.2.2.2.2.2.2.2.2.2.2.2.2.2.2.2.2.2.2.2.2.1 hx).1 b31)⟩
      · skip
        refine rz_ldct (k := 1000017) d_Status_words_380 rfl ?_
        refine rz_pure (pc' := 387) d_Status_words_382 rfl ?_
        exact rz_aret d_Status_words_387 rfl ⟨_, rfl, ((w.2.2.2.2.2.2.2.2.2.2.2.2.2.2.2.2.2.2.2.2.2.2.2.2.2.2.2.2.2.2.2.2.2.2.2.1 hx).2 b31)⟩
    | 35, _ =>
      replace hx := hx.trans (show Int32.ofInt ((0 : Int) + ((35 : Nat) : Int)) = 35 from by decide)
      refine rz_tsj (tgt := 371) d_Status_words_4 hx rfl ?_
      refine rz_pure (pc' := 372) d_Status_words_371 rfl ?_
      refine rz_getiv (v := S.2 3 0) d_Status_words_372 f_9_9 rfl rfl rfl ?_
      refine rz_bipush (v := 30) d_Status_words_375 (by decide) ?_
      refine rz_icmpge (tgt := 385) d_Status_words_377 rfl (fun b32 => ?_) (fun b32 => ?_)
      · skip
        refine rz_ldct (k := 1000018) d_Status_words_385 rfl ?_
        exact rz_aret d_Status_words_387 rfl ⟨_, rfl, ((w.2.2.2.2.2.2.2.2.2.2.2.2.2.2.2.2.2.2.2.2.2.2.2.2.2.2.2.2.2.2.2.2.2.2.2.2.1 hx).1 b32)⟩
      · skip
        refine rz_ldct (k := 1000017) d_Status_words_380 rfl ?_
        refine rz_pure (pc' := 387) d_Status_words_382 rfl ?_
        exact rz_aret d_Status_words_387 rfl ⟨_, rfl, ((w.2.2.2.2.2.2.2.2.2.2.2.2.2.2.2.2.2.2.2.2.2.2.2.2.2.2.2.2.2.2.2.2.2.2.2.2.1 hx).2 b32)⟩
    | 36, _ =>
      replace hx := hx.trans (show Int32.ofInt ((0 : Int) + ((36 : Nat) : Int)) = 36 from by decide)
      refine rz_tsj (tgt := 371) d_Status_words_4 hx rfl ?_
      refine rz_pure (pc' := 372) d_Status_words_371 rfl ?_
      refine rz_getiv (v := S.2 3 0) d_Status_words_372 f_9_9 rfl rfl rfl ?_
      refine rz_bipush (v := 30) d_Status_words_375 (by decide) ?_
      refine rz_icmpge (tgt := 385) d_Status_words_377 rfl (fun b33 => ?_) (fun b33 => ?_)
      · skip
        refine rz_ldct (k := 1000018) d_Status_words_385 rfl ?_
        exact rz_aret d_Status_words_387 rfl ⟨_, rfl, ((w.2.2.2.2.2.2.2.2.2.2.2.2.2.2.2.2.2.2.2.2.2.2.2.2.2.2.2.2.2.2.2.2.2.2.2.2.2.1 hx).1 b33)⟩
      · skip
        refine rz_ldct (k := 1000017) d_Status_words_380 rfl ?_
        refine rz_pure (pc' := 387) d_Status_words_382 rfl ?_
        exact rz_aret d_Status_words_387 rfl ⟨_, rfl, ((w.2.2.2.2.2.2.2.2.2.2.2.2.2.2.2.2.2.2.2.2.2.2.2.2.2.2.2.2.2.2.2.2.2.2.2.2.2.1 hx).2 b33)⟩
    | 37, _ =>
      replace hx := hx.trans (show Int32.ofInt ((0 : Int) + ((37 : Nat) : Int)) = 37 from by decide)
      refine rz_tsj (tgt := 371) d_Status_words_4 hx rfl ?_
      refine rz_pure (pc' := 372) d_Status_words_371 rfl ?_
      refine rz_getiv (v := S.2 3 0) d_Status_words_372 f_9_9 rfl rfl rfl ?_
      refine rz_bipush (v := 30) d_Status_words_375 (by decide) ?_
      refine rz_icmpge (tgt := 385) d_Status_words_377 rfl (fun b34 => ?_) (fun b34 => ?_)
      · skip
        refine rz_ldct (k := 1000018) d_Status_words_385 rfl ?_
        exact rz_aret d_Status_words_387 rfl ⟨_, rfl, ((w.2.2.2.2.2.2.2.2.2.2.2.2.2.2.2.2.2.2.2.2.2.2.2.2.2.2.2.2.2.2.2.2.2.2.2.2.2.2.1 hx).1 b34)⟩
      · skip
        refine rz_ldct (k := 1000017) d_Status_words_380 rfl ?_
        refine rz_pure (pc' := 387) d_Status_words_382 rfl ?_
        exact rz_aret d_Status_words_387 rfl ⟨_, rfl, ((w.2.2.2.2.2.2.2.2.2.2.2.2.2.2.2.2.2.2.2.2.2.2.2.2.2.2.2.2.2.2.2.2.2.2.2.2.2.2.1 hx).2 b34)⟩
    | 38, _ =>
      replace hx := hx.trans (show Int32.ofInt ((0 : Int) + ((38 : Nat) : Int)) = 38 from by decide)
      refine rz_tsj (tgt := 371) d_Status_words_4 hx rfl ?_
      refine rz_pure (pc' := 372) d_Status_words_371 rfl ?_
      refine rz_getiv (v := S.2 3 0) d_Status_words_372 f_9_9 rfl rfl rfl ?_
      refine rz_bipush (v := 30) d_Status_words_375 (by decide) ?_
      refine rz_icmpge (tgt := 385) d_Status_words_377 rfl (fun b35 => ?_) (fun b35 => ?_)
      · skip
        refine rz_ldct (k := 1000018) d_Status_words_385 rfl ?_
        exact rz_aret d_Status_words_387 rfl ⟨_, rfl, ((w.2.2.2.2.2.2.2.2.2.2.2.2.2.2.2.2.2.2.2.2.2.2.2.2.2.2.2.2.2.2.2.2.2.2.2.2.2.2.2.1 hx).1 b35)⟩
      · skip
        refine rz_ldct (k := 1000017) d_Status_words_380 rfl ?_
        refine rz_pure (pc' := 387) d_Status_words_382 rfl ?_
        exact rz_aret d_Status_words_387 rfl ⟨_, rfl, ((w.2.2.2.2.2.2.2.2.2.2.2.2.2.2.2.2.2.2.2.2.2.2.2.2.2.2.2.2.2.2.2.2.2.2.2.2.2.2.2.1 hx).2 b35)⟩
    | 39, _ =>
      replace hx := hx.trans (show Int32.ofInt ((0 : Int) + ((39 : Nat) : Int)) = 39 from by decide)
      refine rz_tsj (tgt := 371) d_Status_words_4 hx rfl ?_
      refine rz_pure (pc' := 372) d_Status_words_371 rfl ?_
      refine rz_getiv (v := S.2 3 0) d_Status_words_372 f_9_9 rfl rfl rfl ?_
      refine rz_bipush (v := 30) d_Status_words_375 (by decide) ?_
      refine rz_icmpge (tgt := 385) d_Status_words_377 rfl (fun b36 => ?_) (fun b36 => ?_)
      · skip
        refine rz_ldct (k := 1000018) d_Status_words_385 rfl ?_
        exact rz_aret d_Status_words_387 rfl ⟨_, rfl, ((w.2.2.2.2.2.2.2.2.2.2.2.2.2.2.2.2.2.2.2.2.2.2.2.2.2.2.2.2.2.2.2.2.2.2.2.2.2.2.2.2.1 hx).1 b36)⟩
      · skip
        refine rz_ldct (k := 1000017) d_Status_words_380 rfl ?_
        refine rz_pure (pc' := 387) d_Status_words_382 rfl ?_
        exact rz_aret d_Status_words_387 rfl ⟨_, rfl, ((w.2.2.2.2.2.2.2.2.2.2.2.2.2.2.2.2.2.2.2.2.2.2.2.2.2.2.2.2.2.2.2.2.2.2.2.2.2.2.2.2.1 hx).2 b36)⟩
    | 40, _ =>
      replace hx := hx.trans (show Int32.ofInt ((0 : Int) + ((40 : Nat) : Int)) = 40 from by decide)
      refine rz_tsj (tgt := 371) d_Status_words_4 hx rfl ?_
      refine rz_pure (pc' := 372) d_Status_words_371 rfl ?_
      refine rz_getiv (v := S.2 3 0) d_Status_words_372 f_9_9 rfl rfl rfl ?_
      refine rz_bipush (v := 30) d_Status_words_375 (by decide) ?_
      refine rz_icmpge (tgt := 385) d_Status_words_377 rfl (fun b37 => ?_) (fun b37 => ?_)
      · skip
        refine rz_ldct (k := 1000018) d_Status_words_385 rfl ?_
        exact rz_aret d_Status_words_387 rfl ⟨_, rfl, ((w.2.2.2.2.2.2.2.2.2.2.2.2.2.2.2.2.2.2.2.2.2.2.2.2.2.2.2.2.2.2.2.2.2.2.2.2.2.2.2.2.2.1 hx).1 b37)⟩
      · skip
        refine rz_ldct (k := 1000017) d_Status_words_380 rfl ?_
        refine rz_pure (pc' := 387) d_Status_words_382 rfl ?_
        exact rz_aret d_Status_words_387 rfl ⟨_, rfl, ((w.2.2.2.2.2.2.2.2.2.2.2.2.2.2.2.2.2.2.2.2.2.2.2.2.2.2.2.2.2.2.2.2.2.2.2.2.2.2.2.2.2.1 hx).2 b37)⟩
    | 41, _ =>
      replace hx := hx.trans (show Int32.ofInt ((0 : Int) + ((41 : Nat) : Int)) = 41 from by decide)
      refine rz_tsj (tgt := 371) d_Status_words_4 hx rfl ?_
      refine rz_pure (pc' := 372) d_Status_words_371 rfl ?_
      refine rz_getiv (v := S.2 3 0) d_Status_words_372 f_9_9 rfl rfl rfl ?_
      refine rz_bipush (v := 30) d_Status_words_375 (by decide) ?_
      refine rz_icmpge (tgt := 385) d_Status_words_377 rfl (fun b38 => ?_) (fun b38 => ?_)
      · skip
        refine rz_ldct (k := 1000018) d_Status_words_385 rfl ?_
        exact rz_aret d_Status_words_387 rfl ⟨_, rfl, ((w.2.2.2.2.2.2.2.2.2.2.2.2.2.2.2.2.2.2.2.2.2.2.2.2.2.2.2.2.2.2.2.2.2.2.2.2.2.2.2.2.2.2.1 hx).1 b38)⟩
      · skip
        refine rz_ldct (k := 1000017) d_Status_words_380 rfl ?_
        refine rz_pure (pc' := 387) d_Status_words_382 rfl ?_
        exact rz_aret d_Status_words_387 rfl ⟨_, rfl, ((w.2.2.2.2.2.2.2.2.2.2.2.2.2.2.2.2.2.2.2.2.2.2.2.2.2.2.2.2.2.2.2.2.2.2.2.2.2.2.2.2.2.2.1 hx).2 b38)⟩
    | 42, _ =>
      replace hx := hx.trans (show Int32.ofInt ((0 : Int) + ((42 : Nat) : Int)) = 42 from by decide)
      refine rz_tsj (tgt := 371) d_Status_words_4 hx rfl ?_
      refine rz_pure (pc' := 372) d_Status_words_371 rfl ?_
      refine rz_getiv (v := S.2 3 0) d_Status_words_372 f_9_9 rfl rfl rfl ?_
      refine rz_bipush (v := 30) d_Status_words_375 (by decide) ?_
      refine rz_icmpge (tgt := 385) d_Status_words_377 rfl (fun b39 => ?_) (fun b39 => ?_)
      · skip
        refine rz_ldct (k := 1000018) d_Status_words_385 rfl ?_
        exact rz_aret d_Status_words_387 rfl ⟨_, rfl, ((w.2.2.2.2.2.2.2.2.2.2.2.2.2.2.2.2.2.2.2.2.2.2.2.2.2.2.2.2.2.2.2.2.2.2.2.2.2.2.2.2.2.2.2.1 hx).1 b39)⟩
      · skip
        refine rz_ldct (k := 1000017) d_Status_words_380 rfl ?_
        refine rz_pure (pc' := 387) d_Status_words_382 rfl ?_
        exact rz_aret d_Status_words_387 rfl ⟨_, rfl, ((w.2.2.2.2.2.2.2.2.2.2.2.2.2.2.2.2.2.2.2.2.2.2.2.2.2.2.2.2.2.2.2.2.2.2.2.2.2.2.2.2.2.2.2.1 hx).2 b39)⟩
    | 43, _ =>
      replace hx := hx.trans (show Int32.ofInt ((0 : Int) + ((43 : Nat) : Int)) = 43 from by decide)
      refine rz_tsj (tgt := 371) d_Status_words_4 hx rfl ?_
      refine rz_pure (pc' := 372) d_Status_words_371 rfl ?_
      refine rz_getiv (v := S.2 3 0) d_Status_words_372 f_9_9 rfl rfl rfl ?_
      refine rz_bipush (v := 30) d_Status_words_375 (by decide) ?_
      refine rz_icmpge (tgt := 385) d_Status_words_377 rfl (fun b40 => ?_) (fun b40 => ?_)
      · skip
        refine rz_ldct (k := 1000018) d_Status_words_385 rfl ?_
        exact rz_aret d_Status_words_387 rfl ⟨_, rfl, ((w.2.2.2.2.2.2.2.2.2.2.2.2.2.2.2.2.2.2.2.2.2.2.2.2.2.2.2.2.2.2.2.2.2.2.2.2.2.2.2.2.2.2.2.2.1 hx).1 b40)⟩
      · skip
        refine rz_ldct (k := 1000017) d_Status_words_380 rfl ?_
        refine rz_pure (pc' := 387) d_Status_words_382 rfl ?_
        exact rz_aret d_Status_words_387 rfl ⟨_, rfl, ((w.2.2.2.2.2.2.2.2.2.2.2.2.2.2.2.2.2.2.2.2.2.2.2.2.2.2.2.2.2.2.2.2.2.2.2.2.2.2.2.2.2.2.2.2.1 hx).2 b40)⟩
    | 44, _ =>
      replace hx := hx.trans (show Int32.ofInt ((0 : Int) + ((44 : Nat) : Int)) = 44 from by decide)
      refine rz_tsj (tgt := 371) d_Status_words_4 hx rfl ?_
      refine rz_pure (pc' := 372) d_Status_words_371 rfl ?_
      refine rz_getiv (v := S.2 3 0) d_Status_words_372 f_9_9 rfl rfl rfl ?_
      refine rz_bipush (v := 30) d_Status_words_375 (by decide) ?_
      refine rz_icmpge (tgt := 385) d_Status_words_377 rfl (fun b41 => ?_) (fun b41 => ?_)
      · skip
        refine rz_ldct (k := 1000018) d_Status_words_385 rfl ?_
        exact rz_aret d_Status_words_387 rfl ⟨_, rfl, ((w.2.2.2.2.2.2.2.2.2.2.2.2.2.2.2.2.2.2.2.2.2.2.2.2.2.2.2.2.2.2.2.2.2.2.2.2.2.2.2.2.2.2.2.2.2.1 hx).1 b41)⟩
      · skip
        refine rz_ldct (k := 1000017) d_Status_words_380 rfl ?_
        refine rz_pure (pc' := 387) d_Status_words_382 rfl ?_
        exact rz_aret d_Status_words_387 rfl ⟨_, rfl, ((w.2.2.2.2.2.2.2.2.2.2.2.2.2.2.2.2.2.2.2.2.2.2.2.2.2.2.2.2.2.2.2.2.2.2.2.2.2.2.2.2.2.2.2.2.2.1 hx).2 b41)⟩
    | 45, _ =>
      replace hx := hx.trans (show Int32.ofInt ((0 : Int) + ((45 : Nat) : Int)) = 45 from by decide)
      refine rz_tsj (tgt := 371) d_Status_words_4 hx rfl ?_
      refine rz_pure (pc' := 372) d_Status_words_371 rfl ?_
      refine rz_getiv (v := S.2 3 0) d_Status_words_372 f_9_9 rfl rfl rfl ?_
      refine rz_bipush (v := 30) d_Status_words_375 (by decide) ?_
      refine rz_icmpge (tgt := 385) d_Status_words_377 rfl (fun b42 => ?_) (fun b42 => ?_)
      · skip
        refine rz_ldct (k := 1000018) d_Status_words_385 rfl ?_
        exact rz_aret d_Status_words_387 rfl ⟨_, rfl, ((w.2.2.2.2.2.2.2.2.2.2.2.2.2.2.2.2.2.2.2.2.2.2.2.2.2.2.2.2.2.2.2.2.2.2.2.2.2.2.2.2.2.2.2.2.2.2.1 hx).1 b42)⟩
      · skip
        refine rz_ldct (k := 1000017) d_Status_words_380 rfl ?_
        refine rz_pure (pc' := 387) d_Status_words_382 rfl ?_
        exact rz_aret d_Status_words_387 rfl ⟨_, rfl, ((w.2.2.2.2.2.2.2.2.2.2.2.2.2.2.2.2.2.2.2.2.2.2.2.2.2.2.2.2.2.2.2.2.2.2.2.2.2.2.2.2.2.2.2.2.2.2.1 hx).2 b42)⟩
    | 46, _ =>
      replace hx := hx.trans (show Int32.ofInt ((0 : Int) + ((46 : Nat) : Int)) = 46 from by decide)
      refine rz_tsj (tgt := 371) d_Status_words_4 hx rfl ?_
      refine rz_pure (pc' := 372) d_Status_words_371 rfl ?_
      refine rz_getiv (v := S.2 3 0) d_Status_words_372 f_9_9 rfl rfl rfl ?_
      refine rz_bipush (v := 30) d_Status_words_375 (by decide) ?_
      refine rz_icmpge (tgt := 385) d_Status_words_377 rfl (fun b43 => ?_) (fun b43 => ?_)
      · skip
        refine rz_ldct (k := 1000018) d_Status_words_385 rfl ?_
        exact rz_aret d_Status_words_387 rfl ⟨_, rfl, ((w.2.2.2.2.2.2.2.2.2.2.2.2.2.2.2.2.2.2.2.2.2.2.2.2.2.2.2.2.2.2.2.2.2.2.2.2.2.2.2.2.2.2.2.2.2.2.2.1 hx).1 b43)⟩
      · skip
        refine rz_ldct (k := 1000017) d_Status_words_380 rfl ?_
        refine rz_pure (pc' := 387) d_Status_words_382 rfl ?_
        exact rz_aret d_Status_words_387 rfl ⟨_, rfl, ((w.2.2.2.2.2.2.2.2.2.2.2.2.2.2.2.2.2.2.2.2.2.2.2.2.2.2.2.2.2.2.2.2.2.2.2.2.2.2.2.2.2.2.2.2.2.2.2.1 hx).2 b43)⟩
    | 47, _ =>
      replace hx := hx.trans (show Int32.ofInt ((0 : Int) + ((47 : Nat) : Int)) = 47 from by decide)
      refine rz_tsj (tgt := 371) d_Status_words_4 hx rfl ?_
      refine rz_pure (pc' := 372) d_Status_words_371 rfl ?_
      refine rz_getiv (v := S.2 3 0) d_Status_words_372 f_9_9 rfl rfl rfl ?_
      refine rz_bipush (v := 30) d_Status_words_375 (by decide) ?_
      refine rz_icmpge (tgt := 385) d_Status_words_377 rfl (fun b44 => ?_) (fun b44 => ?_)
      · skip
        refine rz_ldct (k := 1000018) d_Status_words_385 rfl ?_
        exact rz_aret d_Status_words_387 rfl ⟨_, rfl, ((w.2.2.2.2.2.2.2.2.2.2.2.2.2.2.2.2.2.2.2.2.2.2.2.2.2.2.2.2.2.2.2.2.2.2.2.2.2.2.2.2.2.2.2.2.2.2.2.2.1 hx).1 b44)⟩
      · skip
        refine rz_ldct (k := 1000017) d_Status_words_380 rfl ?_
        refine rz_pure (pc' := 387) d_Status_words_382 rfl ?_
        exact rz_aret d_Status_words_387 rfl ⟨_, rfl, ((w.2.2.2.2.2.2.2.2.2.2.2.2.2.2.2.2.2.2.2.2.2.2.2.2.2.2.2.2.2.2.2.2.2.2.2.2.2.2.2.2.2.2.2.2.2.2.2.2.1 hx).2 b44)⟩
    | 48, _ =>
      replace hx := hx.trans (show Int32.ofInt ((0 : Int) + ((48 : Nat) : Int)) = 48 from by decide)
      refine rz_tsj (tgt := 371) d_Status_words_4 hx rfl ?_
      refine rz_pure (pc' := 372) d_Status_words_371 rfl ?_
      refine rz_getiv (v := S.2 3 0) d_Status_words_372 f_9_9 rfl rfl rfl ?_
      refine rz_bipush (v := 30) d_Status_words_375 (by decide) ?_
      refine rz_icmpge (tgt := 385) d_Status_words_377 rfl (fun b45 => ?_) (fun b45 => ?_)
      · skip
        refine rz_ldct (k := 1000018) d_Status_words_385 rfl ?_
        exact rz_aret d_Status_words_387 rfl ⟨_, rfl, ((w.2.2.2.2.2.2.2.2.2.2.2.2.2.2.2.2.2.2.2.2.2.2.2.2.2.2.2.2.2.2.2.2.2.2.2.2.2.2.2.2.2.2.2.2.2.2.2.2.2.1 hx).1 b45)⟩
      · skip
        refine rz_ldct (k := 1000017) d_Status_words_380 rfl ?_
        refine rz_pure (pc' := 387) d_Status_words_382 rfl ?_
        exact rz_aret d_Status_words_387 rfl ⟨_, rfl, ((w.2.2.2.2.2.2.2.2.2.2.2.2.2.2.2.2.2.2.2.2.2.2.2.2.2.2.2.2.2.2.2.2.2.2.2.2.2.2.2.2.2.2.2.2.2.2.2.2.2.1 hx).2 b45)⟩
    | 49, _ =>
      replace hx := hx.trans (show Int32.ofInt ((0 : Int) + ((49 : Nat) : Int)) = 49 from by decide)
      refine rz_tsj (tgt := 371) d_Status_words_4 hx rfl ?_
      refine rz_pure (pc' := 372) d_Status_words_371 rfl ?_
      refine rz_getiv (v := S.2 3 0) d_Status_words_372 f_9_9 rfl rfl rfl ?_
      refine rz_bipush (v := 30) d_Status_words_375 (by decide) ?_
      refine rz_icmpge (tgt := 385) d_Status_words_377 rfl (fun b46 => ?_) (fun b46 => ?_)
      · skip
        refine rz_ldct (k := 1000018) d_Status_words_385 rfl ?_
        exact rz_aret d_Status_words_387 rfl ⟨_, rfl, ((w.2.2.2.2.2.2.2.2.2.2.2.2.2.2.2.2.2.2.2.2.2.2.2.2.2.2.2.2.2.2.2.2.2.2.2.2.2.2.2.2.2.2.2.2.2.2.2.2.2.2.1 hx).1 b46)⟩
      · skip
        refine rz_ldct (k := 1000017) d_Status_words_380 rfl ?_
        refine rz_pure (pc' := 387) d_Status_words_382 rfl ?_
        exact rz_aret d_Status_words_387 rfl ⟨_, rfl, ((w.2.2.2.2.2.2.2.2.2.2.2.2.2.2.2.2.2.2.2.2.2.2.2.2.2.2.2.2.2.2.2.2.2.2.2.2.2.2.2.2.2.2.2.2.2.2.2.2.2.2.1 hx).2 b46)⟩
    | 50, _ =>
      replace hx := hx.trans (show Int32.ofInt ((0 : Int) + ((50 : Nat) : Int)) = 50 from by decide)
      refine rz_tsj (tgt := 371) d_Status_words_4 hx rfl ?_
      refine rz_pure (pc' := 372) d_Status_words_371 rfl ?_
      refine rz_getiv (v := S.2 3 0) d_Status_words_372 f_9_9 rfl rfl rfl ?_
      refine rz_bipush (v := 30) d_Status_words_375 (by decide) ?_
      refine rz_icmpge (tgt := 385) d_Status_words_377 rfl (fun b47 => ?_) (fun b47 => ?_)
      · skip
        refine rz_ldct (k := 1000018) d_Status_words_385 rfl ?_
        exact rz_aret d_Status_words_387 rfl ⟨_, rfl, ((w.2.2.2.2.2.2.2.2.2.2.2.2.2.2.2.2.2.2.2.2.2.2.2.2.2.2.2.2.2.2.2.2.2.2.2.2.2.2.2.2.2.2.2.2.2.2.2.2.2.2.2.1 hx).1 b47)⟩
      · skip
        refine rz_ldct (k := 1000017) d_Status_words_380 rfl ?_
        refine rz_pure (pc' := 387) d_Status_words_382 rfl ?_
        exact rz_aret d_Status_words_387 rfl ⟨_, rfl, ((w.2.2.2.2.2.2.2.2.2.2.2.2.2.2.2.2.2.2.2.2.2.2.2.2.2.2.2.2.2.2.2.2.2.2.2.2.2.2.2.2.2.2.2.2.2.2.2.2.2.2.2.1 hx).2 b47)⟩
    | 51, _ =>
      replace hx := hx.trans (show Int32.ofInt ((0 : Int) + ((51 : Nat) : Int)) = 51 from by decide)
      refine rz_tsj (tgt := 371) d_Status_words_4 hx rfl ?_
      refine rz_pure (pc' := 372) d_Status_words_371 rfl ?_
      refine rz_getiv (v := S.2 3 0) d_Status_words_372 f_9_9 rfl rfl rfl ?_
      refine rz_bipush (v := 30) d_Status_words_375 (by decide) ?_
      refine rz_icmpge (tgt := 385) d_Status_words_377 rfl (fun b48 => ?_) (fun b48 => ?_)
      · skip
        refine rz_ldct (k := 1000018) d_Status_words_385 rfl ?_
        exact rz_aret d_Status_words_387 rfl ⟨_, rfl, ((w.2.2.2.2.2.2.2.2.2.2.2.2.2.2.2.2.2.2.2.2.2.2.2.2.2.2.2.2.2.2.2.2.2.2.2.2.2.2.2.2.2.2.2.2.2.2.2.2.2.2.2.2.1 hx).1 b48)⟩
      · skip
        refine rz_ldct (k := 1000017) d_Status_words_380 rfl ?_
        refine rz_pure (pc' := 387) d_Status_words_382 rfl ?_
        exact rz_aret d_Status_words_387 rfl ⟨_, rfl, ((w.2.2.2.2.2.2.2.2.2.2.2.2.2.2.2.2.2.2.2.2.2.2.2.2.2.2.2.2.2.2.2.2.2.2.2.2.2.2.2.2.2.2.2.2.2.2.2.2.2.2.2.2.1 hx).2 b48)⟩
    | 52, _ =>
      replace hx := hx.trans (show Int32.ofInt ((0 : Int) + ((52 : Nat) : Int)) = 52 from by decide)
      refine rz_tsj (tgt := 371) d_Status_words_4 hx rfl ?_
      refine rz_pure (pc' := 372) d_Status_words_371 rfl ?_
      refine rz_getiv (v := S.2 3 0) d_Status_words_372 f_9_9 rfl rfl rfl ?_
      refine rz_bipush (v := 30) d_Status_words_375 (by decide) ?_
      refine rz_icmpge (tgt := 385) d_Status_words_377 rfl (fun b49 => ?_) (fun b49 => ?_)
      · skip
        refine rz_ldct (k := 1000018) d_Status_words_385 rfl ?_
        exact rz_aret d_Status_words_387 rfl ⟨_, rfl, ((w.2.2.2.2.2.2.2.2.2.2.2.2.2.2.2.2.2.2.2.2.2.2.2.2.2.2.2.2.2.2.2.2.2.2.2.2.2.2.2.2.2.2.2.2.2.2.2.2.2.2.2.2.2.1 hx).1 b49)⟩
      · skip
        refine rz_ldct (k := 1000017) d_Status_words_380 rfl ?_
        refine rz_pure (pc' := 387) d_Status_words_382 rfl ?_
        exact rz_aret d_Status_words_387 rfl ⟨_, rfl, ((w.2.2.2.2.2.2.2.2.2.2.2.2.2.2.2.2.2.2.2.2.2.2.2.2.2.2.2.2.2.2.2.2.2.2.2.2.2.2.2.2.2.2.2.2.2.2.2.2.2.2.2.2.2.1 hx).2 b49)⟩
    | 53, _ =>
      replace hx := hx.trans (show Int32.ofInt ((0 : Int) + ((53 : Nat) : Int)) = 53 from by decide)
      refine rz_tsj (tgt := 371) d_Status_words_4 hx rfl ?_
      refine rz_pure (pc' := 372) d_Status_words_371 rfl ?_
      refine rz_getiv (v := S.2 3 0) d_Status_words_372 f_9_9 rfl rfl rfl ?_
      refine rz_bipush (v := 30) d_Status_words_375 (by decide) ?_
      refine rz_icmpge (tgt := 385) d_Status_words_377 rfl (fun b50 => ?_) (fun b50 => ?_)
      · skip
        refine rz_ldct (k := 1000018) d_Status_words_385 rfl ?_
        exact rz_aret d_Status_words_387 rfl ⟨_, rfl, ((w.2.2.2.2.2.2.2.2.2.2.2.2.2.2.2.2.2.2.2.2.2.2.2.2.2.2.2.2.2.2.2.2.2.2.2.2.2.2.2.2.2.2.2.2.2.2.2.2.2.2.2.2.2.2.1 hx).1 b50)⟩
      · skip
        refine rz_ldct (k := 1000017) d_Status_words_380 rfl ?_
        refine rz_pure (pc' := 387) d_Status_words_382 rfl ?_
        exact rz_aret d_Status_words_387 rfl ⟨_, rfl, ((w.2.2.2.2.2.2.2.2.2.2.2.2.2.2.2.2.2.2.2.2.2.2.2.2.2.2.2.2.2.2.2.2.2.2.2.2.2.2.2.2.2.2.2.2.2.2.2.2.2.2.2.2.2.2.1 hx).2 b50)⟩
    | 54, _ =>
      replace hx := hx.trans (show Int32.ofInt ((0 : Int) + ((54 : Nat) : Int)) = 54 from by decide)
      refine rz_tsj (tgt := 371) d_Status_words_4 hx rfl ?_
      refine rz_pure (pc' := 372) d_Status_words_371 rfl ?_
      refine rz_getiv (v := S.2 3 0) d_Status_words_372 f_9_9 rfl rfl rfl ?_
      refine rz_bipush (v := 30) d_Status_words_375 (by decide) ?_
      refine rz_icmpge (tgt := 385) d_Status_words_377 rfl (fun b51 => ?_) (fun b51 => ?_)
      · skip
        refine rz_ldct (k := 1000018) d_Status_words_385 rfl ?_
        exact rz_aret d_Status_words_387 rfl ⟨_, rfl, ((w.2.2.2.2.2.2.2.2.2.2.2.2.2.2.2.2.2.2.2.2.2.2.2.2.2.2.2.2.2.2.2.2.2.2.2.2.2.2.2.2.2.2.2.2.2.2.2.2.2.2.2.2.2.2.2.1 hx).1 b51)⟩
      · skip
        refine rz_ldct (k := 1000017) d_Status_words_380 rfl ?_
        refine rz_pure (pc' := 387) d_Status_words_382 rfl ?_
        exact rz_aret d_Status_words_387 rfl ⟨_, rfl, ((w.2.2.2.2.2.2.2.2.2.2.2.2.2.2.2.2.2.2.2.2.2.2.2.2.2.2.2.2.2.2.2.2.2.2.2.2.2.2.2.2.2.2.2.2.2.2.2.2.2.2.2.2.2.2.2.1 hx).2 b51)⟩
    | 55, _ =>
      replace hx := hx.trans (show Int32.ofInt ((0 : Int) + ((55 : Nat) : Int)) = 55 from by decide)
      refine rz_tsj (tgt := 371) d_Status_words_4 hx rfl ?_
      refine rz_pure (pc' := 372) d_Status_words_371 rfl ?_
      refine rz_getiv (v := S.2 3 0) d_Status_words_372 f_9_9 rfl rfl rfl ?_
      refine rz_bipush (v := 30) d_Status_words_375 (by decide) ?_
      refine rz_icmpge (tgt := 385) d_Status_words_377 rfl (fun b52 => ?_) (fun b52 => ?_)
      · skip
        refine rz_ldct (k := 1000018) d_Status_words_385 rfl ?_
        exact rz_aret d_Status_words_387 rfl ⟨_, rfl, ((w.2.2.2.2.2.2.2.2.2.2.2.2.2.2.2.2.2.2.2.2.2.2.2.2.2.2.2.2.2.2.2.2.2.2.2.2.2.2.2.2.2.2.2.2.2.2.2.2.2.2.2.2.2.2.2.2.1 hx).1 b52)⟩
      · skip
        refine rz_ldct (k := 1000017) d_Status_words_380 rfl ?_
        refine rz_pure (pc' := 387) d_Status_words_382 rfl ?_
        exact rz_aret d_Status_words_387 rfl ⟨_, rfl, ((w.2.2.2.2.2.2.2.2.2.2.2.2.2.2.2.2.2.2.2.2.2.2.2.2.2.2.2.2.2.2.2.2.2.2.2.2.2.2.2.2.2.2.2.2.2.2.2.2.2.2.2.2.2.2.2.2.1 hx).2 b52)⟩
    | 56, _ =>
      replace hx := hx.trans (show Int32.ofInt ((0 : Int) + ((56 : Nat) : Int)) = 56 from by decide)
      refine rz_tsj (tgt := 371) d_Status_words_4 hx rfl ?_
      refine rz_pure (pc' := 372) d_Status_words_371 rfl ?_
      refine rz_getiv (v := S.2 3 0) d_Status_words_372 f_9_9 rfl rfl rfl ?_
      refine rz_bipush (v := 30) d_Status_words_375 (by decide) ?_
      refine rz_icmpge (tgt := 385) d_Status_words_377 rfl (fun b53 => ?_) (fun b53 => ?_)
      · skip
        refine rz_ldct (k := 1000018) d_Status_words_385 rfl ?_
        exact rz_aret d_Status_words_387 rfl ⟨_, rfl, ((w.2.2.2.2.2.2.2.2.2.2.2.2.2.2.2.2.2.2.2.2.2.2.2.2.2.2.2.2.2.2.2.2.2.2.2.2.2.2.2.2.2.2.2.2.2.2.2.2.2.2.2.2.2.2.2.2.2.1 hx).1 b53)⟩
      · skip
        refine rz_ldct (k := 1000017) d_Status_words_380 rfl ?_
        refine rz_pure (pc' := 387) d_Status_words_382 rfl ?_
        exact rz_aret d_Status_words_387 rfl ⟨_, rfl, ((w.2.2.2.2.2.2.2.2.2.2.2.2.2.2.2.2.2.2.2.2.2.2.2.2.2.2.2.2.2.2.2.2.2.2.2.2.2.2.2.2.2.2.2.2.2.2.2.2.2.2.2.2.2.2.2.2.2.1 hx).2 b53)⟩
    | 57, _ =>
      replace hx := hx.trans (show Int32.ofInt ((0 : Int) + ((57 : Nat) : Int)) = 57 from by decide)
      refine rz_tsj (tgt := 371) d_Status_words_4 hx rfl ?_
      refine rz_pure (pc' := 372) d_Status_words_371 rfl ?_
      refine rz_getiv (v := S.2 3 0) d_Status_words_372 f_9_9 rfl rfl rfl ?_
      refine rz_bipush (v := 30) d_Status_words_375 (by decide) ?_
      refine rz_icmpge (tgt := 385) d_Status_words_377 rfl (fun b54 => ?_) (fun b54 => ?_)
      · skip
        refine rz_ldct (k := 1000018) d_Status_words_385 rfl ?_
        exact rz_aret d_Status_words_387 rfl ⟨_, rfl, ((w.2.2.2.2.2.2.2.2.2.2.2.2.2.2.2.2.2.2.2.2.2.2.2.2.2.2.2.2.2.2.2.2.2.2.2.2.2.2.2.2.2.2.2.2.2.2.2.2.2.2.2.2.2.2.2.2.2.2.1 hx).1 b54)⟩
      · skip
        refine rz_ldct (k := 1000017) d_Status_words_380 rfl ?_
        refine rz_pure (pc' := 387) d_Status_words_382 rfl ?_
        exact rz_aret d_Status_words_387 rfl ⟨_, rfl, ((w.2.2.2.2.2.2.2.2.2.2.2.2.2.2.2.2.2.2.2.2.2.2.2.2.2.2.2.2.2.2.2.2.2.2.2.2.2.2.2.2.2.2.2.2.2.2.2.2.2.2.2.2.2.2.2.2.2.2.1 hx).2 b54)⟩
    | 58, _ =>
      replace hx := hx.trans (show Int32.ofInt ((0 : Int) + ((58 : Nat) : Int)) = 58 from by decide)
      refine rz_tsj (tgt := 371) d_Status_words_4 hx rfl ?_
      refine rz_pure (pc' := 372) d_Status_words_371 rfl ?_
      refine rz_getiv (v := S.2 3 0) d_Status_words_372 f_9_9 rfl rfl rfl ?_
      refine rz_bipush (v := 30) d_Status_words_375 (by decide) ?_
      refine rz_icmpge (tgt := 385) d_Status_words_377 rfl (fun b55 => ?_) (fun b55 => ?_)
      · skip
        refine rz_ldct (k := 1000018) d_Status_words_385 rfl ?_
        exact rz_aret d_Status_words_387 rfl ⟨_, rfl, ((w.2.2.2.2.2.2.2.2.2.2.2.2.2.2.2.2.2.2.2.2.2.2.2.2.2.2.2.2.2.2.2.2.2.2.2.2.2.2.2.2.2.2.2.2.2.2.2.2.2.2.2.2.2.2.2.2.2.2.2.1 hx).1 b55)⟩
      · skip
        refine rz_ldct (k := 1000017) d_Status_words_380 rfl ?_
        refine rz_pure (pc' := 387) d_Status_words_382 rfl ?_
        exact rz_aret d_Status_words_387 rfl ⟨_, rfl, ((w.2.2.2.2.2.2.2.2.2.2.2.2.2.2.2.2.2.2.2.2.2.2.2.2.2.2.2.2.2.2.2.2.2.2.2.2.2.2.2.2.2.2.2.2.2.2.2.2.2.2.2.2.2.2.2.2.2.2.2.1 hx).2 b55)⟩
    | 59, _ =>
      replace hx := hx.trans (show Int32.ofInt ((0 : Int) + ((59 : Nat) : Int)) = 59 from by decide)
      refine rz_tsj (tgt := 371) d_Status_words_4 hx rfl ?_
      refine rz_pure (pc' := 372) d_Status_words_371 rfl ?_
      refine rz_getiv (v := S.2 3 0) d_Status_words_372 f_9_9 rfl rfl rfl ?_
      refine rz_bipush (v := 30) d_Status_words_375 (by decide) ?_
      refine rz_icmpge (tgt := 385) d_Status_words_377 rfl (fun b56 => ?_) (fun b56 => ?_)
      · skip
        refine rz_ldct (k := 1000018) d_Status_words_385 rfl ?_
        exact rz_aret d_Status_words_387 rfl ⟨_, rfl, ((w.2.2.2.2.2.2.2.2.2.2.2.2.2.2.2.2.2.2.2.2.2.2.2.2.2.2.2.2.2.2.2.2.2.2.2.2.2.2.2.2.2.2.2.2.2.2.2.2.2.2.2.2.2.2.2.2.2.2.2.2.1 hx).1 b56)⟩
      · skip
        refine rz_ldct (k := 1000017) d_Status_words_380 rfl ?_
        refine rz_pure (pc' := 387) d_Status_words_382 rfl ?_
        exact rz_aret d_Status_words_387 rfl ⟨_, rfl, ((w.2.2.2.2.2.2.2.2.2.2.2.2.2.2.2.2.2.2.2.2.2.2.2.2.2.2.2.2.2.2.2.2.2.2.2.2.2.2.2.2.2.2.2.2.2.2.2.2.2.2.2.2.2.2.2.2.2.2.2.2.1 hx).2 b56)⟩
    | 60, _ =>
      replace hx := hx.trans (show Int32.ofInt ((0 : Int) + ((60 : Nat) : Int)) = 60 from by decide)
      refine rz_tsj (tgt := 335) d_Status_words_4 hx rfl ?_
      refine rz_ldct (k := 1000005) d_Status_words_335 rfl ?_
      exact rz_aret d_Status_words_337 rfl ⟨_, rfl, (w.2.2.2.2.2.2.2.2.2.2.2.2.2.2.2.2.2.2.2.2.2.2.2.2.2.2.2.2.2.2.2.2.2.2.2.2.2.2.2.2.2.2.2.2.2.2.2.2.2.2.2.2.2.2.2.2.2.2.2.2.2.1 hx)⟩
    | 61, _ =>
      replace hx := hx.trans (show Int32.ofInt ((0 : Int) + ((61 : Nat) : Int)) = 61 from by decide)
      refine rz_tsj (tgt := 338) d_Status_words_4 hx rfl ?_
      refine rz_ldct (k := 1000006) d_Status_words_338 rfl ?_
      exact rz_aret d_Status_words_340 rfl ⟨_, rfl, (w.2.2.2.2.2.2.2.2.2.2.2.2.2.2.2.2.2.2.2.2.2.2.2.2.2.2.2.2.2.2.2.2.2.2.2.2.2.2.2.2.2.2.2.2.2.2.2.2.2.2.2.2.2.2.2.2.2.2.2.2.2.2.1 hx)⟩
    | 62, _ =>
      replace hx := hx.trans (show Int32.ofInt ((0 : Int) + ((62 : Nat) : Int)) = 62 from by decide)
      refine rz_tsj (tgt := 341) d_Status_words_4 hx rfl ?_
      refine rz_ldct (k := 1000007) d_Status_words_341 rfl ?_
      exact rz_aret d_Status_words_343 rfl ⟨_, rfl, (w.2.2.2.2.2.2.2.2.2.2.2.2.2.2.2.2.2.2.2.2.2.2.2.2.2.2.2.2.2.2.2.2.2.2.2.2.2.2.2.2.2.2.2.2.2.2.2.2.2.2.2.2.2.2.2.2.2.2.2.2.2.2.2.1 hx)⟩
    | 63, _ =>
      replace hx := hx.trans (show Int32.ofInt ((0 : Int) + ((63 : Nat) : Int)) = 63 from by decide)
      refine rz_tsj (tgt := 344) d_Status_words_4 hx rfl ?_
      refine rz_ldct (k := 1000008) d_Status_words_344 rfl ?_
      exact rz_aret d_Status_words_346 rfl ⟨_, rfl, (w.2.2.2.2.2.2.2.2.2.2.2.2.2.2.2.2.2.2.2.2.2.2.2.2.2.2.2.2.2.2.2.2.2.2.2.2.2.2.2.2.2.2.2.2.2.2.2.2.2.2.2.2.2.2.2.2.2.2.2.2.2.2.2.2.1 hx)⟩
    | 64, _ =>
      replace hx := hx.trans (show Int32.ofInt ((0 : Int) + ((64 : Nat) : Int)) = 64 from by decide)
      refine rz_tsj (tgt := 347) d_Status_words_4 hx rfl ?_
      refine rz_ldct (k := 1000009) d_Status_words_347 rfl ?_
      exact rz_aret d_Status_words_349 rfl ⟨_, rfl, (w.2.2.2.2.2.2.2.2.2.2.2.2.2.2.2.2.2.2.2.2.2.2.2.2.2.2.2.2.2.2.2.2.2.2.2.2.2.2.2.2.2.2.2.2.2.2.2.2.2.2.2.2.2.2.2.2.2.2.2.2.2.2.2.2.2.1 hx)⟩
    | 65, _ =>
      replace hx := hx.trans (show Int32.ofInt ((0 : Int) + ((65 : Nat) : Int)) = 65 from by decide)
      refine rz_tsj (tgt := 350) d_Status_words_4 hx rfl ?_
      refine rz_ldct (k := 1000010) d_Status_words_350 rfl ?_
      exact rz_aret d_Status_words_352 rfl ⟨_, rfl, (w.2.2.2.2.2.2.2.2.2.2.2.2.2.2.2.2.2.2.2.2.2.2.2.2.2.2.2.2.2.2.2.2.2.2.2.2.2.2.2.2.2.2.2.2.2.2.2.2.2.2.2.2.2.2.2.2.2.2.2.2.2.2.2.2.2.2.1 hx)⟩
    | 66, _ =>
      replace hx := hx.trans (show Int32.ofInt ((0 : Int) + ((66 : Nat) : Int)) = 66 from by decide)
      refine rz_tsj (tgt := 353) d_Status_words_4 hx rfl ?_
      refine rz_ldct (k := 1000011) d_Status_words_353 rfl ?_
      exact rz_aret d_Status_words_355 rfl ⟨_, rfl, (w.2.2.2.2.2.2.2.2.2.2.2.2.2.2.2.2.2.2.2.2.2.2.2.2.2.2.2.2.2.2.2.2.2.2.2.2.2.2.2.2.2.2.2.2.2.2.2.2.2.2.2.2.2.2.2.2.2.2.2.2.2.2.2.2.2.2.2.1 hx)⟩
    | 67, _ =>
      replace hx := hx.trans (show Int32.ofInt ((0 : Int) + ((67 : Nat) : Int)) = 67 from by decide)
      refine rz_tsj (tgt := 371) d_Status_words_4 hx rfl ?_
      refine rz_pure (pc' := 372) d_Status_words_371 rfl ?_
      refine rz_getiv (v := S.2 3 0) d_Status_words_372 f_9_9 rfl rfl rfl ?_
      refine rz_bipush (v := 30) d_Status_words_375 (by decide) ?_
      refine rz_icmpge (tgt := 385) d_Status_words_377 rfl (fun b57 => ?_) (fun b57 => ?_)
      · skip
        refine rz_ldct (k := 1000018) d_Status_words_385 rfl ?_
        exact rz_aret d_Status_words_387 rfl ⟨_, rfl, ((w.2.2.2.2.2.2.2.2.2.2.2.2.2.2.2.2.2.2.2.2.2.2.2.2.2.2.2.2.2.2.2.2.2.2.2.2.2.2.2.2.2.2.2.2.2.2.2.2.2.2.2.2.2.2.2.2.2.2.2.2.2.2.2.2.2.2.2.2.1 hx).1 b57)⟩
      · skip
        refine rz_ldct (k := 1000017) d_Status_words_380 rfl ?_
        refine rz_pure (pc' := 387) d_Status_words_382 rfl ?_
        exact rz_aret d_Status_words_387 rfl ⟨_, rfl, ((w.2.2.2.2.2.2.2.2.2.2.2.2.2.2.2.2.2.2.2.2.2.2.2.2.2.2.2.2.2.2.2.2.2.2.2.2.2.2.2.2.2.2.2.2.2.2.2.2.2.2.2.2.2.2.2.2.2.2.2.2.2.2.2.2.2.2.2.2.1 hx).2 b57)⟩
    | 68, _ =>
      replace hx := hx.trans (show Int32.ofInt ((0 : Int) + ((68 : Nat) : Int)) = 68 from by decide)
      refine rz_tsj (tgt := 371) d_Status_words_4 hx rfl ?_
      refine rz_pure (pc' := 372) d_Status_words_371 rfl ?_
      refine rz_getiv (v := S.2 3 0) d_Status_words_372 f_9_9 rfl rfl rfl ?_
      refine rz_bipush (v := 30) d_Status_words_375 (by decide) ?_
      refine rz_icmpge (tgt := 385) d_Status_words_377 rfl (fun b58 => ?_) (fun b58 => ?_)
      · skip
        refine rz_ldct (k := 1000018) d_Status_words_385 rfl ?_
        exact rz_aret d_Status_words_387 rfl ⟨_, rfl, ((w.2.2.2.2.2.2.2.2.2.2.2.2.2.2.2.2.2.2.2.2.2.2.2.2.2.2.2.2.2.2.2.2.2.2.2.2.2.2.2.2.2.2.2.2.2.2.2.2.2.2.2.2.2.2.2.2.2.2.2.2.2.2.2.2.2.2.2.2.2.1 hx).1 b58)⟩
      · skip
        refine rz_ldct (k := 1000017) d_Status_words_380 rfl ?_
        refine rz_pure (pc' := 387) d_Status_words_382 rfl ?_
        exact rz_aret d_Status_words_387 rfl ⟨_, rfl, ((w.2.2.2.2.2.2.2.2.2.2.2.2.2.2.2.2.2.2.2.2.2.2.2.2.2.2.2.2.2.2.2.2.2.2.2.2.2.2.2.2.2.2.2.2.2.2.2.2.2.2.2.2.2.2.2.2.2.2.2.2.2.2.2.2.2.2.2.2.2.1 hx).2 b58)⟩
    | 69, _ =>
      replace hx := hx.trans (show Int32.ofInt ((0 : Int) + ((69 : Nat) : Int)) = 69 from by decide)
      refine rz_tsj (tgt := 371) d_Status_words_4 hx rfl ?_
      refine rz_pure (pc' := 372) d_Status_words_371 rfl ?_
      refine rz_getiv (v := S.2 3 0) d_Status_words_372 f_9_9 rfl rfl rfl ?_
      refine rz_bipush (v := 30) d_Status_words_375 (by decide) ?_
      refine rz_icmpge (tgt := 385) d_Status_words_377 rfl (fun b59 => ?_) (fun b59 => ?_)
      · skip
        refine rz_ldct (k := 1000018) d_Status_words_385 rfl ?_
        exact rz_aret d_Status_words_387 rfl ⟨_, rfl, ((w.2.2.2.2.2.2.2.2.2.2.2.2.2.2.2.2.2.2.2.2.2.2.2.2.2.2.2.2.2.2.2.2.2.2.2.2.2.2.2.2.2.2.2.2.2.2.2.2.2.2.2.2.2.2.2.2.2.2.2.2.2.2.2.2.2.2.2.2.2.2.1 hx).1 b59)⟩
      · skip
        refine rz_ldct (k := 1000017) d_Status_words_380 rfl ?_
        refine rz_pure (pc' := 387) d_Status_words_382 rfl ?_
        exact rz_aret d_Status_words_387 rfl ⟨_, rfl, ((w.2.2.2.2.2.2.2.2.2.2.2.2.2.2.2.2.2.2.2.2.2.2.2.2.2.2.2.2.2.2.2.2.2.2.2.2.2.2.2.2.2.2.2.2.2.2.2.2.2.2.2.2.2.2.2.2.2.2.2.2.2.2.2.2.2.2.2.2.2.2.1 hx).2 b59)⟩
    | 70, _ =>
      replace hx := hx.trans (show Int32.ofInt ((0 : Int) + ((70 : Nat) : Int)) = 70 from by decide)
      refine rz_tsj (tgt := 356) d_Status_words_4 hx rfl ?_
      refine rz_ldct (k := 1000012) d_Status_words_356 rfl ?_
      exact rz_aret d_Status_words_358 rfl ⟨_, rfl, (w.2.2.2.2.2.2.2.2.2.2.2.2.2.2.2.2.2.2.2.2.2.2.2.2.2.2.2.2.2.2.2.2.2.2.2.2.2.2.2.2.2.2.2.2.2.2.2.2.2.2.2.2.2.2.2.2.2.2.2.2.2.2.2.2.2.2.2.2.2.2.2.1 hx)⟩
    | 71, _ =>
      replace hx := hx.trans (show Int32.ofInt ((0 : Int) + ((71 : Nat) : Int)) = 71 from by decide)
      refine rz_tsj (tgt := 359) d_Status_words_4 hx rfl ?_
      refine rz_ldct (k := 1000013) d_Status_words_359 rfl ?_
      exact rz_aret d_Status_words_361 rfl ⟨_, rfl, (w.2.2.2.2.2.2.2.2.2.2.2.2.2.2.2.2.2.2.2.2.2.2.2.2.2.2.2.2.2.2.2.2.2.2.2.2.2.2.2.2.2.2.2.2.2.2.2.2.2.2.2.2.2.2.2.2.2.2.2.2.2.2.2.2.2.2.2.2.2.2.2.2.1 hx)⟩
    | 72, _ =>
      replace hx := hx.trans (show Int32.ofInt ((0 : Int) + ((72 : Nat) : Int)) = 72 from by decide)
      refine rz_tsj (tgt := 362) d_Status_words_4 hx rfl ?_
      refine rz_ldct (k := 1000014) d_Status_words_362 rfl ?_
      exact rz_aret d_Status_words_364 rfl ⟨_, rfl, (w.2.2.2.2.2.2.2.2.2.2.2.2.2.2.2.2.2.2.2.2.2.2.2.2.2.2.2.2.2.2.2.2.2.2.2.2.2.2.2.2.2.2.2.2.2.2.2.2.2.2.2.2.2.2.2.2.2.2.2.2.2.2.2.2.2.2.2.2.2.2.2.2.2.1 hx)⟩
    | 73, _ =>
      replace hx := hx.trans (show Int32.ofInt ((0 : Int) + ((73 : Nat) : Int)) = 73 from by decide)
      refine rz_tsj (tgt := 365) d_Status_words_4 hx rfl ?_
      refine rz_ldct (k := 1000015) d_Status_words_365 rfl ?_
      exact rz_aret d_Status_words_367 rfl ⟨_, rfl, (w.2.2.2.2.2.2.2.2.2.2.2.2.2.2.2.2.2.2.2.2.2.2.2.2.2.2.2.2.2.2.2.2.2.2.2.2.2.2.2.2.2.2.2.2.2.2.2.2.2.2.2.2.2.2.2.2.2.2.2.2.2.2.2.2.2.2.2.2.2.2.2.2.2.2.1 hx)⟩
    | 74, _ =>
      replace hx := hx.trans (show Int32.ofInt ((0 : Int) + ((74 : Nat) : Int)) = 74 from by decide)
      refine rz_tsj (tgt := 368) d_Status_words_4 hx rfl ?_
      refine rz_ldct (k := 1000016) d_Status_words_368 rfl ?_
      exact rz_aret d_Status_words_370 rfl ⟨_, rfl, (w.2.2.2.2.2.2.2.2.2.2.2.2.2.2.2.2.2.2.2.2.2.2.2.2.2.2.2.2.2.2.2.2.2.2.2.2.2.2.2.2.2.2.2.2.2.2.2.2.2.2.2.2.2.2.2.2.2.2.2.2.2.2.2.2.2.2.2.2.2.2.2.2.2.2.2 hx)⟩
    | j + 75, h => exact absurd h (by omega)
theorem d_BlockMap_freeSum_0 : decode (rm_code mBlockMap_freeSum) 0 = .ok (.iconst 0, 1) := by decide +kernel
theorem d_BlockMap_freeSum_1 : decode (rm_code mBlockMap_freeSum) 1 = .ok (.istore_n 1, 1) := by decide +kernel
theorem d_BlockMap_freeSum_2 : decode (rm_code mBlockMap_freeSum) 2 = .ok (.iconst 0, 1) := by decide +kernel
theorem d_BlockMap_freeSum_3 : decode (rm_code mBlockMap_freeSum) 3 = .ok (.istore_n 2, 1) := by decide +kernel
theorem d_BlockMap_freeSum_4 : decode (rm_code mBlockMap_freeSum) 4 = .ok (.iload_n 2, 1) := by decide +kernel
theorem d_BlockMap_freeSum_5 : decode (rm_code mBlockMap_freeSum) 5 = .ok (.getstatic 55, 3) := by decide +kernel
theorem d_BlockMap_freeSum_8 : decode (rm_code mBlockMap_freeSum) 8 = .ok (.arraylength, 1) := by decide +kernel
theorem d_BlockMap_freeSum_9 : decode (rm_code mBlockMap_freeSum) 9 = .ok (.if_icmp .ge (26), 3) := by decide +kernel
theorem d_BlockMap_freeSum_12 : decode (rm_code mBlockMap_freeSum) 12 = .ok (.iload_n 1, 1) := by decide +kernel
theorem d_BlockMap_freeSum_13 : decode (rm_code mBlockMap_freeSum) 13 = .ok (.aload_n 0, 1) := by decide +kernel
theorem d_BlockMap_freeSum_14 : decode (rm_code mBlockMap_freeSum) 14 = .ok (.getfield 9, 3) := by decide +kernel
theorem d_BlockMap_freeSum_17 : decode (rm_code mBlockMap_freeSum) 17 = .ok (.iconst 2, 1) := by decide +kernel
theorem d_BlockMap_freeSum_18 : decode (rm_code mBlockMap_freeSum) 18 = .ok (.iconst 2, 1) := by decide +kernel
theorem d_BlockMap_freeSum_19 : decode (rm_code mBlockMap_freeSum) 19 = .ok (.getstatic 55, 3) := by decide +kernel
theorem d_BlockMap_freeSum_22 : decode (rm_code mBlockMap_freeSum) 22 = .ok (.iload_n 2, 1) := by decide +kernel
theorem d_BlockMap_freeSum_23 : decode (rm_code mBlockMap_freeSum) 23 = .ok (.iaload, 1) := by decide +kernel
theorem d_BlockMap_freeSum_24 : decode (rm_code mBlockMap_freeSum) 24 = .ok (.imul, 1) := by decide +kernel
theorem d_BlockMap_freeSum_25 : decode (rm_code mBlockMap_freeSum) 25 = .ok (.iadd, 1) := by decide +kernel
theorem d_BlockMap_freeSum_26 : decode (rm_code mBlockMap_freeSum) 26 = .ok (.iaload, 1) := by decide +kernel
theorem d_BlockMap_freeSum_27 : decode (rm_code mBlockMap_freeSum) 27 = .ok (.iadd, 1) := by decide +kernel
theorem d_BlockMap_freeSum_28 : decode (rm_code mBlockMap_freeSum) 28 = .ok (.istore_n 1, 1) := by decide +kernel
theorem d_BlockMap_freeSum_29 : decode (rm_code mBlockMap_freeSum) 29 = .ok (.iinc 2 (1), 3) := by decide +kernel
theorem d_BlockMap_freeSum_32 : decode (rm_code mBlockMap_freeSum) 32 = .ok (.goto (-28), 3) := by decide +kernel
theorem d_BlockMap_freeSum_35 : decode (rm_code mBlockMap_freeSum) 35 = .ok (.iload_n 1, 1) := by decide +kernel
theorem d_BlockMap_freeSum_36 : decode (rm_code mBlockMap_freeSum) 36 = .ok (.ireturn, 1) := by decide +kernel
theorem p_BlockMap_freeSum_0 {S : rz_S} {K : Int32 → rz_S → Prop} (w : rz mBlockMap_freeSum 4 [(0, .ref 44), (1, .int 0), (2, .int 0)] [] S (rz_i K)) : rz mBlockMap_freeSum 0 [(0, .ref 44)] [] S (rz_i K) := by
  refine rz_iconst (v := 0) d_BlockMap_freeSum_0 (by decide) ?_
  refine rz_pure (pc' := 2) (l' := [(1, .int 0), (0, .ref 44)]) d_BlockMap_freeSum_1 rfl ?_
  refine rz_iconst (v := 0) d_BlockMap_freeSum_2 (by decide) ?_
  refine rz_pure (pc' := 4) (l' := [(2, .int 0), (1, .int 0), (0, .ref 44)]) d_BlockMap_freeSum_3 rfl ?_
  exact rz_pick (ks := [0, 1, 2]) (l := [(0, .ref 44), (1, .int 0), (2, .int 0)]) rfl rfl (by decide) rfl w
theorem p_BlockMap_freeSum_4 {S : rz_S} {K : Int32 → rz_S → Prop} {a1 : Int32} {a2 : Int32} (w : ((11 ≤ a2 → K a1 S) ∧ (¬ 11 ≤ a2 → rx_in a2 11 = true ∧ rx_in (2 + (2 * (sa_v 7 a2.toNatClampNeg))) 64 = true ∧ rz mBlockMap_freeSum 4 [(0, .ref 44), (1, .int (a1 + (S.1 45 ((2 + (2 * (sa_v 7 a2.toNatClampNeg))).toNatClampNeg)))), (2, .int (a2 + 1))] [] S (rz_i K)))) : rz mBlockMap_freeSum 4 [(0, .ref 44), (1, .int a1), (2, .int a2)] [] S (rz_i K) := by
  refine rz_pure (pc' := 5) d_BlockMap_freeSum_4 rfl ?_
  refine rz_stat (v := .ref 3000007) d_BlockMap_freeSum_5 rfl ?_
  refine rz_stalen (j := 7) (n := 11) d_BlockMap_freeSum_8 rfl rfl rfl ?_
  refine rz_icmpge (tgt := 35) d_BlockMap_freeSum_9 rfl (fun b1 => ?_) (fun b1 => ?_)
  · skip
    refine rz_pure (pc' := 36) d_BlockMap_freeSum_35 rfl ?_
    exact rz_ireti d_BlockMap_freeSum_36 rfl rfl (w.1 b1)
  · skip
    refine rz_pure (pc' := 13) d_BlockMap_freeSum_12 rfl ?_
    refine rz_pure (pc' := 14) d_BlockMap_freeSum_13 rfl ?_
    refine rz_getr d_BlockMap_freeSum_14 f_0_9 rfl rfl ?_
    refine rz_iconst (v := 2) d_BlockMap_freeSum_17 (by decide) ?_
    refine rz_iconst (v := 2) d_BlockMap_freeSum_18 (by decide) ?_
    refine rz_stat (v := .ref 3000007) d_BlockMap_freeSum_19 rfl ?_
    refine rz_pure (pc' := 23) d_BlockMap_freeSum_22 rfl ?_
    refine rz_staldv (j := 7) (n := 11) (i := a2.toNatClampNeg) d_BlockMap_freeSum_23 rfl rfl rfl (w.2 b1).1 rfl ?_
    refine rz_imul d_BlockMap_freeSum_24 ?_
    refine rz_iadd d_BlockMap_freeSum_25 ?_
    refine rz_ialdv (F := S.1 45) (i := (2 + (2 * (sa_v 7 a2.toNatClampNeg))).toNatClampNeg) d_BlockMap_freeSum_26 rfl (w.2 b1).2.1 rfl rfl ?_
    refine rz_iadd d_BlockMap_freeSum_27 ?_
    refine rz_pure (pc' := 29) (l' := [(1, .int (a1 + (S.1 45 ((2 + (2 * (sa_v 7 a2.toNatClampNeg))).toNatClampNeg)))), (0, .ref 44), (2, .int a2)]) d_BlockMap_freeSum_28 rfl ?_
    refine rz_pure (pc' := 32) (l' := [(2, .int (a2 + 1)), (1, .int (a1 + (S.1 45 ((2 + (2 * (sa_v 7 a2.toNatClampNeg))).toNatClampNeg)))), (0, .ref 44)]) d_BlockMap_freeSum_29 rfl ?_
    refine rz_pure (pc' := 4) d_BlockMap_freeSum_32 rfl ?_
    exact rz_pick (ks := [0, 1, 2]) (l := [(0, .ref 44), (1, .int (a1 + (S.1 45 ((2 + (2 * (sa_v 7 a2.toNatClampNeg))).toNatClampNeg)))), (2, .int (a2 + 1))]) rfl rfl (by decide) rfl (w.2 b1).2.2
