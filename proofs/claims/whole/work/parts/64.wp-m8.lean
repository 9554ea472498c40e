/-! what each block of the code asks (printed by wpgen.py) -/
theorem d_M_changes_0 : decode (rm_code mM_changes) 0 = .ok (.aload_n 0, 1) := by decide +kernel
theorem d_M_changes_1 : decode (rm_code mM_changes) 1 = .ok (.iload_n 2, 1) := by decide +kernel
theorem d_M_changes_2 : decode (rm_code mM_changes) 2 = .ok (.invokevirtual 675, 3) := by decide +kernel
theorem d_M_changes_5 : decode (rm_code mM_changes) 5 = .ok (.istore_n 3, 1) := by decide +kernel
theorem d_M_changes_6 : decode (rm_code mM_changes) 6 = .ok (.aload_n 0, 1) := by decide +kernel
theorem d_M_changes_7 : decode (rm_code mM_changes) 7 = .ok (.iload_n 3, 1) := by decide +kernel
theorem d_M_changes_8 : decode (rm_code mM_changes) 8 = .ok (.aload_n 0, 1) := by decide +kernel
theorem d_M_changes_9 : decode (rm_code mM_changes) 9 = .ok (.iload_n 1, 1) := by decide +kernel
theorem d_M_changes_10 : decode (rm_code mM_changes) 10 = .ok (.aload_n 0, 1) := by decide +kernel
theorem d_M_changes_11 : decode (rm_code mM_changes) 11 = .ok (.iload_n 3, 1) := by decide +kernel
theorem d_M_changes_12 : decode (rm_code mM_changes) 12 = .ok (.invokevirtual 620, 3) := by decide +kernel
theorem d_M_changes_15 : decode (rm_code mM_changes) 15 = .ok (.invokevirtual 693, 3) := by decide +kernel
theorem d_M_changes_18 : decode (rm_code mM_changes) 18 = .ok (.invokevirtual 617, 3) := by decide +kernel
theorem d_M_changes_21 : decode (rm_code mM_changes) 21 = .ok (.aload_n 0, 1) := by decide +kernel
theorem d_M_changes_22 : decode (rm_code mM_changes) 22 = .ok (.aload_n 0, 1) := by decide +kernel
theorem d_M_changes_23 : decode (rm_code mM_changes) 23 = .ok (.getfield 641, 3) := by decide +kernel
theorem d_M_changes_26 : decode (rm_code mM_changes) 26 = .ok (.iload_n 2, 1) := by decide +kernel
theorem d_M_changes_27 : decode (rm_code mM_changes) 27 = .ok (.iconst 1, 1) := by decide +kernel
theorem d_M_changes_28 : decode (rm_code mM_changes) 28 = .ok (.if_icmp .ne (7), 3) := by decide +kernel
theorem d_M_changes_31 : decode (rm_code mM_changes) 31 = .ok (.iconst 5, 1) := by decide +kernel
theorem d_M_changes_32 : decode (rm_code mM_changes) 32 = .ok (.goto (15), 3) := by decide +kernel
theorem d_M_changes_35 : decode (rm_code mM_changes) 35 = .ok (.iload_n 2, 1) := by decide +kernel
theorem d_M_changes_36 : decode (rm_code mM_changes) 36 = .ok (.iconst 5, 1) := by decide +kernel
theorem d_M_changes_37 : decode (rm_code mM_changes) 37 = .ok (.if_icmp .ne (8), 3) := by decide +kernel
theorem d_M_changes_40 : decode (rm_code mM_changes) 40 = .ok (.bipush (7), 2) := by decide +kernel
theorem d_M_changes_42 : decode (rm_code mM_changes) 42 = .ok (.goto (5), 3) := by decide +kernel
theorem d_M_changes_45 : decode (rm_code mM_changes) 45 = .ok (.bipush (6), 2) := by decide +kernel
theorem d_M_changes_47 : decode (rm_code mM_changes) 47 = .ok (.iadd, 1) := by decide +kernel
theorem d_M_changes_48 : decode (rm_code mM_changes) 48 = .ok (.putfield 641, 3) := by decide +kernel
theorem d_M_changes_51 : decode (rm_code mM_changes) 51 = .ok (.return_, 1) := by decide +kernel
theorem p_M_changes_0 {S : rz_S} {K : rz_S → Prop} {a1 : Int32} {a2 : Int32} (w : rz_ev mM_address [.ref 116, .int a2] S (rz_i (fun xq1 Sq1 => rz_ev mM_get [.ref 116, .int xq1] Sq1 (rz_i (fun xq2 Sq2 => rz_ev mM_shifted [.ref 116, .int a1, .int xq2] Sq2 (rz_i (fun xq3 Sq3 => rz_ev mM_put [.ref 116, .int xq1, .int xq3] Sq3 (rz_v (fun Sq4 => ((a2 = 1 → K (rz_uI Sq4 116 81 ((Sq4.2 116 81) + 5))) ∧ (¬ a2 = 1 → ((a2 = 5 → K (rz_uI Sq4 116 81 ((Sq4.2 116 81) + 7))) ∧ (¬ a2 = 5 → K (rz_uI Sq4 116 81 ((Sq4.2 116 81) + 6))))))))))))))) : rz mM_changes 0 [(0, .ref 116), (1, .int a1), (2, .int a2)] [] S (rz_v K) := by
  refine rz_pure (pc' := 1) d_M_changes_0 rfl ?_
  refine rz_pure (pc' := 2) d_M_changes_1 rfl ?_
  refine rz_callVi (t := [.int a2]) d_M_changes_2 w_12_675 rfl rfl rfl w (fun xq1 Sq1 q1 => ?_)
  refine rz_pure (pc' := 6) (l' := [(3, .int xq1), (0, .ref 116), (1, .int a1), (2, .int a2)]) d_M_changes_5 rfl ?_
  refine rz_pure (pc' := 7) d_M_changes_6 rfl ?_
  refine rz_pure (pc' := 8) d_M_changes_7 rfl ?_
  refine rz_pure (pc' := 9) d_M_changes_8 rfl ?_
  refine rz_pure (pc' := 10) d_M_changes_9 rfl ?_
  refine rz_pure (pc' := 11) d_M_changes_10 rfl ?_
  refine rz_pure (pc' := 12) d_M_changes_11 rfl ?_
  refine rz_callVi (t := [.int xq1]) d_M_changes_12 w_12_620 rfl rfl rfl q1 (fun xq2 Sq2 q2 => ?_)
  refine rz_callVi (t := [.int xq2, .int a1]) d_M_changes_15 w_12_693 rfl rfl rfl q2 (fun xq3 Sq3 q3 => ?_)
  refine rz_callVv (t := [.int xq3, .int xq1]) d_M_changes_18 w_12_617 rfl rfl rfl q3 (fun Sq4 q4 => ?_)
  refine rz_pure (pc' := 22) d_M_changes_21 rfl ?_
  refine rz_pure (pc' := 23) d_M_changes_22 rfl ?_
  refine rz_getiv (v := Sq4.2 116 81) d_M_changes_23 f_12_641 rfl rfl rfl ?_
  refine rz_pure (pc' := 27) d_M_changes_26 rfl ?_
  refine rz_iconst (v := 1) d_M_changes_27 (by decide) ?_
  refine rz_icmpne (tgt := 35) d_M_changes_28 rfl (fun b5 => ?_) (fun b5 => ?_)
  · skip
    refine rz_pure (pc' := 36) d_M_changes_35 rfl ?_
    refine rz_iconst (v := 5) d_M_changes_36 (by decide) ?_
    refine rz_icmpne (tgt := 45) d_M_changes_37 rfl (fun b6 => ?_) (fun b6 => ?_)
    · skip
      refine rz_bipush (v := 6) d_M_changes_45 (by decide) ?_
      refine rz_iadd d_M_changes_47 ?_
      refine rz_puti d_M_changes_48 f_12_641 rfl rfl rfl ?_
      exact rz_vretv d_M_changes_51 rfl ((q4.2 b5).2 b6)
    · skip
      refine rz_bipush (v := 7) d_M_changes_40 (by decide) ?_
      refine rz_pure (pc' := 47) d_M_changes_42 rfl ?_
      refine rz_iadd d_M_changes_47 ?_
      refine rz_puti d_M_changes_48 f_12_641 rfl rfl rfl ?_
      exact rz_vretv d_M_changes_51 rfl ((q4.2 b5).1 b6)
  · skip
    refine rz_iconst (v := 5) d_M_changes_31 (by decide) ?_
    refine rz_pure (pc' := 47) d_M_changes_32 rfl ?_
    refine rz_iadd d_M_changes_47 ?_
    refine rz_puti d_M_changes_48 f_12_641 rfl rfl rfl ?_
    exact rz_vretv d_M_changes_51 rfl (q4.1 b5)
theorem d_M_branch_0 : decode (rm_code mM_branch) 0 = .ok (.aload_n 0, 1) := by decide +kernel
theorem d_M_branch_1 : decode (rm_code mM_branch) 1 = .ok (.invokevirtual 653, 3) := by decide +kernel
theorem d_M_branch_4 : decode (rm_code mM_branch) 4 = .ok (.i2b, 1) := by decide +kernel
theorem d_M_branch_5 : decode (rm_code mM_branch) 5 = .ok (.istore_n 2, 1) := by decide +kernel
theorem d_M_branch_6 : decode (rm_code mM_branch) 6 = .ok (.aload_n 0, 1) := by decide +kernel
theorem d_M_branch_7 : decode (rm_code mM_branch) 7 = .ok (.aload_n 0, 1) := by decide +kernel
theorem d_M_branch_8 : decode (rm_code mM_branch) 8 = .ok (.getfield 641, 3) := by decide +kernel
theorem d_M_branch_11 : decode (rm_code mM_branch) 11 = .ok (.iconst 2, 1) := by decide +kernel
theorem d_M_branch_12 : decode (rm_code mM_branch) 12 = .ok (.iadd, 1) := by decide +kernel
theorem d_M_branch_13 : decode (rm_code mM_branch) 13 = .ok (.putfield 641, 3) := by decide +kernel
theorem d_M_branch_16 : decode (rm_code mM_branch) 16 = .ok (.iload_n 1, 1) := by decide +kernel
theorem d_M_branch_17 : decode (rm_code mM_branch) 17 = .ok (.ifCond .ne (4), 3) := by decide +kernel
theorem d_M_branch_20 : decode (rm_code mM_branch) 20 = .ok (.return_, 1) := by decide +kernel
theorem d_M_branch_21 : decode (rm_code mM_branch) 21 = .ok (.aload_n 0, 1) := by decide +kernel
theorem d_M_branch_22 : decode (rm_code mM_branch) 22 = .ok (.getfield 644, 3) := by decide +kernel
theorem d_M_branch_25 : decode (rm_code mM_branch) 25 = .ok (.iload_n 2, 1) := by decide +kernel
theorem d_M_branch_26 : decode (rm_code mM_branch) 26 = .ok (.iadd, 1) := by decide +kernel
theorem d_M_branch_27 : decode (rm_code mM_branch) 27 = .ok (.istore_n 3, 1) := by decide +kernel
theorem d_M_branch_28 : decode (rm_code mM_branch) 28 = .ok (.aload_n 0, 1) := by decide +kernel
theorem d_M_branch_29 : decode (rm_code mM_branch) 29 = .ok (.aload_n 0, 1) := by decide +kernel
theorem d_M_branch_30 : decode (rm_code mM_branch) 30 = .ok (.getfield 641, 3) := by decide +kernel
theorem d_M_branch_33 : decode (rm_code mM_branch) 33 = .ok (.iload_n 3, 1) := by decide +kernel
theorem d_M_branch_34 : decode (rm_code mM_branch) 34 = .ok (.sipush (-256), 3) := by decide +kernel
theorem d_M_branch_37 : decode (rm_code mM_branch) 37 = .ok (.iand, 1) := by decide +kernel
theorem d_M_branch_38 : decode (rm_code mM_branch) 38 = .ok (.aload_n 0, 1) := by decide +kernel
theorem d_M_branch_39 : decode (rm_code mM_branch) 39 = .ok (.getfield 644, 3) := by decide +kernel
theorem d_M_branch_42 : decode (rm_code mM_branch) 42 = .ok (.sipush (-256), 3) := by decide +kernel
theorem d_M_branch_45 : decode (rm_code mM_branch) 45 = .ok (.iand, 1) := by decide +kernel
theorem d_M_branch_46 : decode (rm_code mM_branch) 46 = .ok (.if_icmp .eq (7), 3) := by decide +kernel
theorem d_M_branch_49 : decode (rm_code mM_branch) 49 = .ok (.iconst 2, 1) := by decide +kernel
theorem d_M_branch_50 : decode (rm_code mM_branch) 50 = .ok (.goto (4), 3) := by decide +kernel
theorem d_M_branch_53 : decode (rm_code mM_branch) 53 = .ok (.iconst 1, 1) := by decide +kernel
theorem d_M_branch_54 : decode (rm_code mM_branch) 54 = .ok (.iadd, 1) := by decide +kernel
theorem d_M_branch_55 : decode (rm_code mM_branch) 55 = .ok (.putfield 641, 3) := by decide +kernel
theorem d_M_branch_58 : decode (rm_code mM_branch) 58 = .ok (.aload_n 0, 1) := by decide +kernel
theorem d_M_branch_59 : decode (rm_code mM_branch) 59 = .ok (.iload_n 3, 1) := by decide +kernel
theorem d_M_branch_60 : decode (rm_code mM_branch) 60 = .ok (.sipush (2047), 3) := by decide +kernel
theorem d_M_branch_63 : decode (rm_code mM_branch) 63 = .ok (.iand, 1) := by decide +kernel
theorem d_M_branch_64 : decode (rm_code mM_branch) 64 = .ok (.putfield 644, 3) := by decide +kernel
theorem d_M_branch_67 : decode (rm_code mM_branch) 67 = .ok (.return_, 1) := by decide +kernel
theorem p_M_branch_0 {S : rz_S} {K : rz_S → Prop} {a1 : Int32} (w : rz_ev mM_byteNext [.ref 116] S (rz_i (fun xq1 Sq1 => ((a1 = 0 → K (rz_uI Sq1 116 81 ((Sq1.2 116 81) + 2))) ∧ (¬ a1 = 0 → ((((Sq1.2 116 80) + xq1.toInt8.toInt32) &&& (-256) = (Sq1.2 116 80) &&& (-256) → K (rz_uI (rz_uI (rz_uI Sq1 116 81 ((Sq1.2 116 81) + 2)) 116 81 (((Sq1.2 116 81) + 2) + 1)) 116 80 (((Sq1.2 116 80) + xq1.toInt8.toInt32) &&& 2047))) ∧ (¬ ((Sq1.2 116 80) + xq1.toInt8.toInt32) &&& (-256) = (Sq1.2 116 80) &&& (-256) → K (rz_uI (rz_uI (rz_uI Sq1 116 81 ((Sq1.2 116 81) + 2)) 116 81 (((Sq1.2 116 81) + 2) + 2)) 116 80 (((Sq1.2 116 80) + xq1.toInt8.toInt32) &&& 2047))))))))) : rz mM_branch 0 [(0, .ref 116), (1, .int a1)] [] S (rz_v K) := by
  refine rz_pure (pc' := 1) d_M_branch_0 rfl ?_
  refine rz_callVi (t := []) d_M_branch_1 w_12_653 rfl rfl rfl w (fun xq1 Sq1 q1 => ?_)
  refine rz_i2b d_M_branch_4 ?_
  refine rz_pure (pc' := 6) (l' := [(2, .int xq1.toInt8.toInt32), (0, .ref 116), (1, .int a1)]) d_M_branch_5 rfl ?_
  refine rz_pure (pc' := 7) d_M_branch_6 rfl ?_
  refine rz_pure (pc' := 8) d_M_branch_7 rfl ?_
  refine rz_getiv (v := Sq1.2 116 81) d_M_branch_8 f_12_641 rfl rfl rfl ?_
  refine rz_iconst (v := 2) d_M_branch_11 (by decide) ?_
  refine rz_iadd d_M_branch_12 ?_
  refine rz_puti d_M_branch_13 f_12_641 rfl rfl rfl ?_
  refine rz_pure (pc' := 17) d_M_branch_16 rfl ?_
  refine rz_ifne (tgt := 21) d_M_branch_17 rfl (fun b2 => ?_) (fun b2 => ?_)
  · skip
    refine rz_pure (pc' := 22) d_M_branch_21 rfl ?_
    refine rz_getiv (v := Sq1.2 116 80) d_M_branch_22 f_12_644 rfl rfl ((rz_uI_n (fun h => absurd h.2 (by decide))).trans rfl) ?_
    refine rz_pure (pc' := 26) d_M_branch_25 rfl ?_
    refine rz_iadd d_M_branch_26 ?_
    refine rz_pure (pc' := 28) (l' := [(3, .int ((Sq1.2 116 80) + xq1.toInt8.toInt32)), (2, .int xq1.toInt8.toInt32), (0, .ref 116), (1, .int a1)]) d_M_branch_27 rfl ?_
    refine rz_pure (pc' := 29) d_M_branch_28 rfl ?_
    refine rz_pure (pc' := 30) d_M_branch_29 rfl ?_
    refine rz_getiv (v := (Sq1.2 116 81) + 2) d_M_branch_30 f_12_641 rfl rfl rz_uI_s ?_
    refine rz_pure (pc' := 34) d_M_branch_33 rfl ?_
    refine rz_sipush (v := -256) d_M_branch_34 (by decide) ?_
    refine rz_iand d_M_branch_37 ?_
    refine rz_pure (pc' := 39) d_M_branch_38 rfl ?_
    refine rz_getiv (v := Sq1.2 116 80) d_M_branch_39 f_12_644 rfl rfl ((rz_uI_n (fun h => absurd h.2 (by decide))).trans rfl) ?_
    refine rz_sipush (v := -256) d_M_branch_42 (by decide) ?_
    refine rz_iand d_M_branch_45 ?_
    refine rz_icmpeq (tgt := 53) d_M_branch_46 rfl (fun b3 => ?_) (fun b3 => ?_)
    · skip
      refine rz_iconst (v := 1) d_M_branch_53 (by decide) ?_
      refine rz_iadd d_M_branch_54 ?_
      refine rz_puti d_M_branch_55 f_12_641 rfl rfl rfl ?_
      refine rz_pure (pc' := 59) d_M_branch_58 rfl ?_
      refine rz_pure (pc' := 60) d_M_branch_59 rfl ?_
      refine rz_sipush (v := 2047) d_M_branch_60 (by decide) ?_
      refine rz_iand d_M_branch_63 ?_
      refine rz_puti d_M_branch_64 f_12_644 rfl rfl rfl ?_
      exact rz_vretv d_M_branch_67 rfl ((q1.2 b2).1 b3)
    · skip
      refine rz_iconst (v := 2) d_M_branch_49 (by decide) ?_
      refine rz_pure (pc' := 54) d_M_branch_50 rfl ?_
      refine rz_iadd d_M_branch_54 ?_
      refine rz_puti d_M_branch_55 f_12_641 rfl rfl rfl ?_
      refine rz_pure (pc' := 59) d_M_branch_58 rfl ?_
      refine rz_pure (pc' := 60) d_M_branch_59 rfl ?_
      refine rz_sipush (v := 2047) d_M_branch_60 (by decide) ?_
      refine rz_iand d_M_branch_63 ?_
      refine rz_puti d_M_branch_64 f_12_644 rfl rfl rfl ?_
      exact rz_vretv d_M_branch_67 rfl ((q1.2 b2).2 b3)
  · skip
    exact rz_vretv d_M_branch_20 rfl (q1.1 b2)
theorem d_M_fetches_0 : decode (rm_code mM_fetches) 0 = .ok (.aload_n 0, 1) := by decide +kernel
theorem d_M_fetches_1 : decode (rm_code mM_fetches) 1 = .ok (.aload_n 0, 1) := by decide +kernel
theorem d_M_fetches_2 : decode (rm_code mM_fetches) 2 = .ok (.iload_n 2, 1) := by decide +kernel
theorem d_M_fetches_3 : decode (rm_code mM_fetches) 3 = .ok (.invokevirtual 675, 3) := by decide +kernel
theorem d_M_fetches_6 : decode (rm_code mM_fetches) 6 = .ok (.invokevirtual 620, 3) := by decide +kernel
theorem d_M_fetches_9 : decode (rm_code mM_fetches) 9 = .ok (.istore_n 3, 1) := by decide +kernel
theorem d_M_fetches_10 : decode (rm_code mM_fetches) 10 = .ok (.aload_n 0, 1) := by decide +kernel
theorem d_M_fetches_11 : decode (rm_code mM_fetches) 11 = .ok (.aload_n 0, 1) := by decide +kernel
theorem d_M_fetches_12 : decode (rm_code mM_fetches) 12 = .ok (.getfield 641, 3) := by decide +kernel
theorem d_M_fetches_15 : decode (rm_code mM_fetches) 15 = .ok (.aload_n 0, 1) := by decide +kernel
theorem d_M_fetches_16 : decode (rm_code mM_fetches) 16 = .ok (.iload_n 2, 1) := by decide +kernel
theorem d_M_fetches_17 : decode (rm_code mM_fetches) 17 = .ok (.invokevirtual 681, 3) := by decide +kernel
theorem d_M_fetches_20 : decode (rm_code mM_fetches) 20 = .ok (.iadd, 1) := by decide +kernel
theorem d_M_fetches_21 : decode (rm_code mM_fetches) 21 = .ok (.putfield 641, 3) := by decide +kernel
theorem d_M_fetches_24 : decode (rm_code mM_fetches) 24 = .ok (.iload_n 1, 1) := by decide +kernel
theorem d_M_fetches_25 : decode (rm_code mM_fetches) 25 = .ok (.ifCond .ne (15), 3) := by decide +kernel
theorem d_M_fetches_28 : decode (rm_code mM_fetches) 28 = .ok (.aload_n 0, 1) := by decide +kernel
theorem d_M_fetches_29 : decode (rm_code mM_fetches) 29 = .ok (.aload_n 0, 1) := by decide +kernel
theorem d_M_fetches_30 : decode (rm_code mM_fetches) 30 = .ok (.iload_n 3, 1) := by decide +kernel
theorem d_M_fetches_31 : decode (rm_code mM_fetches) 31 = .ok (.invokevirtual 669, 3) := by decide +kernel
theorem d_M_fetches_34 : decode (rm_code mM_fetches) 34 = .ok (.putfield 629, 3) := by decide +kernel
theorem d_M_fetches_37 : decode (rm_code mM_fetches) 37 = .ok (.goto (12), 3) := by decide +kernel
theorem d_M_fetches_40 : decode (rm_code mM_fetches) 40 = .ok (.aload_n 0, 1) := by decide +kernel
theorem d_M_fetches_41 : decode (rm_code mM_fetches) 41 = .ok (.aload_n 0, 1) := by decide +kernel
theorem d_M_fetches_42 : decode (rm_code mM_fetches) 42 = .ok (.iload_n 3, 1) := by decide +kernel
theorem d_M_fetches_43 : decode (rm_code mM_fetches) 43 = .ok (.invokevirtual 669, 3) := by decide +kernel
theorem d_M_fetches_46 : decode (rm_code mM_fetches) 46 = .ok (.putfield 632, 3) := by decide +kernel
theorem d_M_fetches_49 : decode (rm_code mM_fetches) 49 = .ok (.iconst 1, 1) := by decide +kernel
theorem d_M_fetches_50 : decode (rm_code mM_fetches) 50 = .ok (.ireturn, 1) := by decide +kernel
theorem p_M_fetches_0 {S : rz_S} {K : Int32 → rz_S → Prop} {a1 : Int32} {a2 : Int32} (w : rz_ev mM_address [.ref 116, .int a2] S (rz_i (fun xq1 Sq1 => rz_ev mM_get [.ref 116, .int xq1] Sq1 (rz_i (fun xq2 Sq2 => rz_ev mM_readTime [.ref 116, .int a2] Sq2 (rz_i (fun xq3 Sq3 => ((a1 = 0 → rz_ev mM_marks [.ref 116, .int xq2] (rz_uI Sq3 116 81 ((Sq2.2 116 81) + xq3)) (rz_i (fun xq6 Sq6 => K 1 (rz_uI Sq6 116 76 xq6)))) ∧ (¬ a1 = 0 → rz_ev mM_marks [.ref 116, .int xq2] (rz_uI Sq3 116 81 ((Sq2.2 116 81) + xq3)) (rz_i (fun xq5 Sq5 => K 1 (rz_uI Sq5 116 77 xq5)))))))))))) : rz mM_fetches 0 [(0, .ref 116), (1, .int a1), (2, .int a2)] [] S (rz_i K) := by
  refine rz_pure (pc' := 1) d_M_fetches_0 rfl ?_
  refine rz_pure (pc' := 2) d_M_fetches_1 rfl ?_
  refine rz_pure (pc' := 3) d_M_fetches_2 rfl ?_
  refine rz_callVi (t := [.int a2]) d_M_fetches_3 w_12_675 rfl rfl rfl w (fun xq1 Sq1 q1 => ?_)
  refine rz_callVi (t := [.int xq1]) d_M_fetches_6 w_12_620 rfl rfl rfl q1 (fun xq2 Sq2 q2 => ?_)
  refine rz_pure (pc' := 10) (l' := [(3, .int xq2), (0, .ref 116), (1, .int a1), (2, .int a2)]) d_M_fetches_9 rfl ?_
  refine rz_pure (pc' := 11) d_M_fetches_10 rfl ?_
  refine rz_pure (pc' := 12) d_M_fetches_11 rfl ?_
  refine rz_getiv (v := Sq2.2 116 81) d_M_fetches_12 f_12_641 rfl rfl rfl ?_
  refine rz_pure (pc' := 16) d_M_fetches_15 rfl ?_
  refine rz_pure (pc' := 17) d_M_fetches_16 rfl ?_
  refine rz_callVi (t := [.int a2]) d_M_fetches_17 w_12_681 rfl rfl rfl q2 (fun xq3 Sq3 q3 => ?_)
  refine rz_iadd d_M_fetches_20 ?_
  refine rz_puti d_M_fetches_21 f_12_641 rfl rfl rfl ?_
  refine rz_pure (pc' := 25) d_M_fetches_24 rfl ?_
  refine rz_ifne (tgt := 40) d_M_fetches_25 rfl (fun b4 => ?_) (fun b4 => ?_)
  · skip
    refine rz_pure (pc' := 41) d_M_fetches_40 rfl ?_
    refine rz_pure (pc' := 42) d_M_fetches_41 rfl ?_
    refine rz_pure (pc' := 43) d_M_fetches_42 rfl ?_
    refine rz_callVi (t := [.int xq2]) d_M_fetches_43 w_12_669 rfl rfl rfl (q3.2 b4) (fun xq5 Sq5 q5 => ?_)
    refine rz_puti d_M_fetches_46 f_12_632 rfl rfl rfl ?_
    refine rz_iconst (v := 1) d_M_fetches_49 (by decide) ?_
    exact rz_ireti d_M_fetches_50 rfl (by decide) q5
  · skip
    refine rz_pure (pc' := 29) d_M_fetches_28 rfl ?_
    refine rz_pure (pc' := 30) d_M_fetches_29 rfl ?_
    refine rz_pure (pc' := 31) d_M_fetches_30 rfl ?_
    refine rz_callVi (t := [.int xq2]) d_M_fetches_31 w_12_669 rfl rfl rfl (q3.1 b4) (fun xq6 Sq6 q6 => ?_)
    refine rz_puti d_M_fetches_34 f_12_629 rfl rfl rfl ?_
    refine rz_pure (pc' := 49) d_M_fetches_37 rfl ?_
    refine rz_iconst (v := 1) d_M_fetches_49 (by decide) ?_
    exact rz_ireti d_M_fetches_50 rfl (by decide) q6
theorem d_M_keeps_0 : decode (rm_code mM_keeps) 0 = .ok (.aload_n 0, 1) := by decide +kernel
theorem d_M_keeps_1 : decode (rm_code mM_keeps) 1 = .ok (.aload_n 0, 1) := by decide +kernel
theorem d_M_keeps_2 : decode (rm_code mM_keeps) 2 = .ok (.iload_n 2, 1) := by decide +kernel
theorem d_M_keeps_3 : decode (rm_code mM_keeps) 3 = .ok (.invokevirtual 675, 3) := by decide +kernel
theorem d_M_keeps_6 : decode (rm_code mM_keeps) 6 = .ok (.iload_n 1, 1) := by decide +kernel
theorem d_M_keeps_7 : decode (rm_code mM_keeps) 7 = .ok (.invokevirtual 617, 3) := by decide +kernel
theorem d_M_keeps_10 : decode (rm_code mM_keeps) 10 = .ok (.aload_n 0, 1) := by decide +kernel
theorem d_M_keeps_11 : decode (rm_code mM_keeps) 11 = .ok (.aload_n 0, 1) := by decide +kernel
theorem d_M_keeps_12 : decode (rm_code mM_keeps) 12 = .ok (.getfield 641, 3) := by decide +kernel
theorem d_M_keeps_15 : decode (rm_code mM_keeps) 15 = .ok (.iload_n 2, 1) := by decide +kernel
theorem d_M_keeps_16 : decode (rm_code mM_keeps) 16 = .ok (.invokestatic 678, 3) := by decide +kernel
theorem d_M_keeps_19 : decode (rm_code mM_keeps) 19 = .ok (.iadd, 1) := by decide +kernel
theorem d_M_keeps_20 : decode (rm_code mM_keeps) 20 = .ok (.putfield 641, 3) := by decide +kernel
theorem d_M_keeps_23 : decode (rm_code mM_keeps) 23 = .ok (.iconst 1, 1) := by decide +kernel
theorem d_M_keeps_24 : decode (rm_code mM_keeps) 24 = .ok (.ireturn, 1) := by decide +kernel
theorem p_M_keeps_0 {S : rz_S} {K : Int32 → rz_S → Prop} {a1 : Int32} {a2 : Int32} (w : rz_ev mM_address [.ref 116, .int a2] S (rz_i (fun xq1 Sq1 => rz_ev mM_put [.ref 116, .int xq1, .int a1] Sq1 (rz_v (fun Sq2 => rz_ev mM_storeTime [.int a2] Sq2 (rz_i (fun xq3 Sq3 => K 1 (rz_uI Sq3 116 81 ((Sq2.2 116 81) + xq3))))))))) : rz mM_keeps 0 [(0, .ref 116), (1, .int a1), (2, .int a2)] [] S (rz_i K) := by
  refine rz_pure (pc' := 1) d_M_keeps_0 rfl ?_
  refine rz_pure (pc' := 2) d_M_keeps_1 rfl ?_
  refine rz_pure (pc' := 3) d_M_keeps_2 rfl ?_
  refine rz_callVi (t := [.int a2]) d_M_keeps_3 w_12_675 rfl rfl rfl w (fun xq1 Sq1 q1 => ?_)
  refine rz_pure (pc' := 7) d_M_keeps_6 rfl ?_
  refine rz_callVv (t := [.int a1, .int xq1]) d_M_keeps_7 w_12_617 rfl rfl rfl q1 (fun Sq2 q2 => ?_)
  refine rz_pure (pc' := 11) d_M_keeps_10 rfl ?_
  refine rz_pure (pc' := 12) d_M_keeps_11 rfl ?_
  refine rz_getiv (v := Sq2.2 116 81) d_M_keeps_12 f_12_641 rfl rfl rfl ?_
  refine rz_pure (pc' := 16) d_M_keeps_15 rfl ?_
  refine rz_callSi (t := [.int a2]) d_M_keeps_16 rfl w_12_678 rfl rfl q2 (fun xq3 Sq3 q3 => ?_)
  refine rz_iadd d_M_keeps_19 ?_
  refine rz_puti d_M_keeps_20 f_12_641 rfl rfl rfl ?_
  refine rz_iconst (v := 1) d_M_keeps_23 (by decide) ?_
  exact rz_ireti d_M_keeps_24 rfl (by decide) q3
theorem d_M_compared_0 : decode (rm_code mM_compared) 0 = .ok (.aload_n 0, 1) := by decide +kernel
theorem d_M_compared_1 : decode (rm_code mM_compared) 1 = .ok (.aload_n 0, 1) := by decide +kernel
theorem d_M_compared_2 : decode (rm_code mM_compared) 2 = .ok (.iload_n 2, 1) := by decide +kernel
theorem d_M_compared_3 : decode (rm_code mM_compared) 3 = .ok (.invokevirtual 675, 3) := by decide +kernel
theorem d_M_compared_6 : decode (rm_code mM_compared) 6 = .ok (.invokevirtual 620, 3) := by decide +kernel
theorem d_M_compared_9 : decode (rm_code mM_compared) 9 = .ok (.istore_n 3, 1) := by decide +kernel
theorem d_M_compared_10 : decode (rm_code mM_compared) 10 = .ok (.aload_n 0, 1) := by decide +kernel
theorem d_M_compared_11 : decode (rm_code mM_compared) 11 = .ok (.aload_n 0, 1) := by decide +kernel
theorem d_M_compared_12 : decode (rm_code mM_compared) 12 = .ok (.getfield 641, 3) := by decide +kernel
theorem d_M_compared_15 : decode (rm_code mM_compared) 15 = .ok (.aload_n 0, 1) := by decide +kernel
theorem d_M_compared_16 : decode (rm_code mM_compared) 16 = .ok (.iload_n 2, 1) := by decide +kernel
theorem d_M_compared_17 : decode (rm_code mM_compared) 17 = .ok (.invokevirtual 681, 3) := by decide +kernel
theorem d_M_compared_20 : decode (rm_code mM_compared) 20 = .ok (.iadd, 1) := by decide +kernel
theorem d_M_compared_21 : decode (rm_code mM_compared) 21 = .ok (.putfield 641, 3) := by decide +kernel
theorem d_M_compared_24 : decode (rm_code mM_compared) 24 = .ok (.aload_n 0, 1) := by decide +kernel
theorem d_M_compared_25 : decode (rm_code mM_compared) 25 = .ok (.iload_n 1, 1) := by decide +kernel
theorem d_M_compared_26 : decode (rm_code mM_compared) 26 = .ok (.iload_n 3, 1) := by decide +kernel
theorem d_M_compared_27 : decode (rm_code mM_compared) 27 = .ok (.invokevirtual 687, 3) := by decide +kernel
theorem d_M_compared_30 : decode (rm_code mM_compared) 30 = .ok (.iconst 1, 1) := by decide +kernel
theorem d_M_compared_31 : decode (rm_code mM_compared) 31 = .ok (.ireturn, 1) := by decide +kernel
theorem p_M_compared_0 {S : rz_S} {K : Int32 → rz_S → Prop} {a1 : Int32} {a2 : Int32} (w : rz_ev mM_address [.ref 116, .int a2] S (rz_i (fun xq1 Sq1 => rz_ev mM_get [.ref 116, .int xq1] Sq1 (rz_i (fun xq2 Sq2 => rz_ev mM_readTime [.ref 116, .int a2] Sq2 (rz_i (fun xq3 Sq3 => rz_ev mM_compares [.ref 116, .int a1, .int xq2] (rz_uI Sq3 116 81 ((Sq2.2 116 81) + xq3)) (rz_v (fun Sq4 => K 1 Sq4))))))))) : rz mM_compared 0 [(0, .ref 116), (1, .int a1), (2, .int a2)] [] S (rz_i K) := by
  refine rz_pure (pc' := 1) d_M_compared_0 rfl ?_
  refine rz_pure (pc' := 2) d_M_compared_1 rfl ?_
  refine rz_pure (pc' := 3) d_M_compared_2 rfl ?_
  refine rz_callVi (t := [.int a2]) d_M_compared_3 w_12_675 rfl rfl rfl w (fun xq1 Sq1 q1 => ?_)
  refine rz_callVi (t := [.int xq1]) d_M_compared_6 w_12_620 rfl rfl rfl q1 (fun xq2 Sq2 q2 => ?_)
  refine rz_pure (pc' := 10) (l' := [(3, .int xq2), (0, .ref 116), (1, .int a1), (2, .int a2)]) d_M_compared_9 rfl ?_
  refine rz_pure (pc' := 11) d_M_compared_10 rfl ?_
  refine rz_pure (pc' := 12) d_M_compared_11 rfl ?_
  refine rz_getiv (v := Sq2.2 116 81) d_M_compared_12 f_12_641 rfl rfl rfl ?_
  refine rz_pure (pc' := 16) d_M_compared_15 rfl ?_
  refine rz_pure (pc' := 17) d_M_compared_16 rfl ?_
  refine rz_callVi (t := [.int a2]) d_M_compared_17 w_12_681 rfl rfl rfl q2 (fun xq3 Sq3 q3 => ?_)
  refine rz_iadd d_M_compared_20 ?_
  refine rz_puti d_M_compared_21 f_12_641 rfl rfl rfl ?_
  refine rz_pure (pc' := 25) d_M_compared_24 rfl ?_
  refine rz_pure (pc' := 26) d_M_compared_25 rfl ?_
  refine rz_pure (pc' := 27) d_M_compared_26 rfl ?_
  refine rz_callVv (t := [.int xq2, .int a1]) d_M_compared_27 w_12_687 rfl rfl rfl q3 (fun Sq4 q4 => ?_)
  refine rz_iconst (v := 1) d_M_compared_30 (by decide) ?_
  exact rz_ireti d_M_compared_31 rfl (by decide) q4
theorem d_M_tests_0 : decode (rm_code mM_tests) 0 = .ok (.aload_n 0, 1) := by decide +kernel
theorem d_M_tests_1 : decode (rm_code mM_tests) 1 = .ok (.aload_n 0, 1) := by decide +kernel
theorem d_M_tests_2 : decode (rm_code mM_tests) 2 = .ok (.iload_n 1, 1) := by decide +kernel
theorem d_M_tests_3 : decode (rm_code mM_tests) 3 = .ok (.invokevirtual 675, 3) := by decide +kernel
theorem d_M_tests_6 : decode (rm_code mM_tests) 6 = .ok (.invokevirtual 620, 3) := by decide +kernel
theorem d_M_tests_9 : decode (rm_code mM_tests) 9 = .ok (.istore_n 2, 1) := by decide +kernel
theorem d_M_tests_10 : decode (rm_code mM_tests) 10 = .ok (.aload_n 0, 1) := by decide +kernel
theorem d_M_tests_11 : decode (rm_code mM_tests) 11 = .ok (.aload_n 0, 1) := by decide +kernel
theorem d_M_tests_12 : decode (rm_code mM_tests) 12 = .ok (.getfield 641, 3) := by decide +kernel
theorem d_M_tests_15 : decode (rm_code mM_tests) 15 = .ok (.aload_n 0, 1) := by decide +kernel
theorem d_M_tests_16 : decode (rm_code mM_tests) 16 = .ok (.iload_n 1, 1) := by decide +kernel
theorem d_M_tests_17 : decode (rm_code mM_tests) 17 = .ok (.invokevirtual 681, 3) := by decide +kernel
theorem d_M_tests_20 : decode (rm_code mM_tests) 20 = .ok (.iadd, 1) := by decide +kernel
theorem d_M_tests_21 : decode (rm_code mM_tests) 21 = .ok (.putfield 641, 3) := by decide +kernel
theorem d_M_tests_24 : decode (rm_code mM_tests) 24 = .ok (.aload_n 0, 1) := by decide +kernel
theorem d_M_tests_25 : decode (rm_code mM_tests) 25 = .ok (.iconst 2, 1) := by decide +kernel
theorem d_M_tests_26 : decode (rm_code mM_tests) 26 = .ok (.aload_n 0, 1) := by decide +kernel
theorem d_M_tests_27 : decode (rm_code mM_tests) 27 = .ok (.getfield 626, 3) := by decide +kernel
theorem d_M_tests_30 : decode (rm_code mM_tests) 30 = .ok (.iload_n 2, 1) := by decide +kernel
theorem d_M_tests_31 : decode (rm_code mM_tests) 31 = .ok (.iand, 1) := by decide +kernel
theorem d_M_tests_32 : decode (rm_code mM_tests) 32 = .ok (.ifCond .ne (7), 3) := by decide +kernel
theorem d_M_tests_35 : decode (rm_code mM_tests) 35 = .ok (.iconst 1, 1) := by decide +kernel
theorem d_M_tests_36 : decode (rm_code mM_tests) 36 = .ok (.goto (4), 3) := by decide +kernel
theorem d_M_tests_39 : decode (rm_code mM_tests) 39 = .ok (.iconst 0, 1) := by decide +kernel
theorem d_M_tests_40 : decode (rm_code mM_tests) 40 = .ok (.invokevirtual 656, 3) := by decide +kernel
theorem d_M_tests_43 : decode (rm_code mM_tests) 43 = .ok (.aload_n 0, 1) := by decide +kernel
theorem d_M_tests_44 : decode (rm_code mM_tests) 44 = .ok (.sipush (128), 3) := by decide +kernel
theorem d_M_tests_47 : decode (rm_code mM_tests) 47 = .ok (.iload_n 2, 1) := by decide +kernel
theorem d_M_tests_48 : decode (rm_code mM_tests) 48 = .ok (.sipush (128), 3) := by decide +kernel
theorem d_M_tests_51 : decode (rm_code mM_tests) 51 = .ok (.iand, 1) := by decide +kernel
theorem d_M_tests_52 : decode (rm_code mM_tests) 52 = .ok (.ifCond .eq (7), 3) := by decide +kernel
theorem d_M_tests_55 : decode (rm_code mM_tests) 55 = .ok (.iconst 1, 1) := by decide +kernel
theorem d_M_tests_56 : decode (rm_code mM_tests) 56 = .ok (.goto (4), 3) := by decide +kernel
theorem d_M_tests_59 : decode (rm_code mM_tests) 59 = .ok (.iconst 0, 1) := by decide +kernel
theorem d_M_tests_60 : decode (rm_code mM_tests) 60 = .ok (.invokevirtual 656, 3) := by decide +kernel
theorem d_M_tests_63 : decode (rm_code mM_tests) 63 = .ok (.aload_n 0, 1) := by decide +kernel
theorem d_M_tests_64 : decode (rm_code mM_tests) 64 = .ok (.bipush (64), 2) := by decide +kernel
theorem d_M_tests_66 : decode (rm_code mM_tests) 66 = .ok (.iload_n 2, 1) := by decide +kernel
theorem d_M_tests_67 : decode (rm_code mM_tests) 67 = .ok (.bipush (64), 2) := by decide +kernel
theorem d_M_tests_69 : decode (rm_code mM_tests) 69 = .ok (.iand, 1) := by decide +kernel
theorem d_M_tests_70 : decode (rm_code mM_tests) 70 = .ok (.ifCond .eq (7), 3) := by decide +kernel
theorem d_M_tests_73 : decode (rm_code mM_tests) 73 = .ok (.iconst 1, 1) := by decide +kernel
theorem d_M_tests_74 : decode (rm_code mM_tests) 74 = .ok (.goto (4), 3) := by decide +kernel
theorem d_M_tests_77 : decode (rm_code mM_tests) 77 = .ok (.iconst 0, 1) := by decide +kernel
theorem d_M_tests_78 : decode (rm_code mM_tests) 78 = .ok (.invokevirtual 656, 3) := by decide +kernel
theorem d_M_tests_81 : decode (rm_code mM_tests) 81 = .ok (.iconst 1, 1) := by decide +kernel
theorem d_M_tests_82 : decode (rm_code mM_tests) 82 = .ok (.ireturn, 1) := by decide +kernel
theorem p_M_tests_0 {S : rz_S} {K : Int32 → rz_S → Prop} {a1 : Int32} (w : rz_ev mM_address [.ref 116, .int a1] S (rz_i (fun xq1 Sq1 => rz_ev mM_get [.ref 116, .int xq1] Sq1 (rz_i (fun xq2 Sq2 => rz_ev mM_readTime [.ref 116, .int a1] Sq2 (rz_i (fun xq3 Sq3 => (((Sq3.2 116 75) &&& xq2 = 0 → rz mM_tests 40 [(0, .ref 116), (2, .int xq2)] [.int 1, .int 2, .ref 116] (rz_uI Sq3 116 81 ((Sq2.2 116 81) + xq3)) (rz_i K)) ∧ (¬ (Sq3.2 116 75) &&& xq2 = 0 → rz mM_tests 40 [(0, .ref 116), (2, .int xq2)] [.int 0, .int 2, .ref 116] (rz_uI Sq3 116 81 ((Sq2.2 116 81) + xq3)) (rz_i K)))))))))) : rz mM_tests 0 [(0, .ref 116), (1, .int a1)] [] S (rz_i K) := by
  refine rz_pure (pc' := 1) d_M_tests_0 rfl ?_
  refine rz_pure (pc' := 2) d_M_tests_1 rfl ?_
  refine rz_pure (pc' := 3) d_M_tests_2 rfl ?_
  refine rz_callVi (t := [.int a1]) d_M_tests_3 w_12_675 rfl rfl rfl w (fun xq1 Sq1 q1 => ?_)
  refine rz_callVi (t := [.int xq1]) d_M_tests_6 w_12_620 rfl rfl rfl q1 (fun xq2 Sq2 q2 => ?_)
  refine rz_pure (pc' := 10) (l' := [(2, .int xq2), (0, .ref 116), (1, .int a1)]) d_M_tests_9 rfl ?_
  refine rz_pure (pc' := 11) d_M_tests_10 rfl ?_
  refine rz_pure (pc' := 12) d_M_tests_11 rfl ?_
  refine rz_getiv (v := Sq2.2 116 81) d_M_tests_12 f_12_641 rfl rfl rfl ?_
  refine rz_pure (pc' := 16) d_M_tests_15 rfl ?_
  refine rz_pure (pc' := 17) d_M_tests_16 rfl ?_
  refine rz_callVi (t := [.int a1]) d_M_tests_17 w_12_681 rfl rfl rfl q2 (fun xq3 Sq3 q3 => ?_)
  refine rz_iadd d_M_tests_20 ?_
  refine rz_puti d_M_tests_21 f_12_641 rfl rfl rfl ?_
  refine rz_pure (pc' := 25) d_M_tests_24 rfl ?_
  refine rz_iconst (v := 2) d_M_tests_25 (by decide) ?_
  refine rz_pure (pc' := 27) d_M_tests_26 rfl ?_
  refine rz_getiv (v := Sq3.2 116 75) d_M_tests_27 f_12_626 rfl rfl ((rz_uI_n (fun h => absurd h.2 (by decide))).trans rfl) ?_
  refine rz_pure (pc' := 31) d_M_tests_30 rfl ?_
  refine rz_iand d_M_tests_31 ?_
  refine rz_ifne (tgt := 39) d_M_tests_32 rfl (fun b4 => ?_) (fun b4 => ?_)
  · skip
    refine rz_iconst (v := 0) d_M_tests_39 (by decide) ?_
    exact rz_pick (ks := [0, 2]) (l := [(0, .ref 116), (2, .int xq2)]) rfl rfl (by decide) rfl (q3.2 b4)
  · skip
    refine rz_iconst (v := 1) d_M_tests_35 (by decide) ?_
    refine rz_pure (pc' := 40) d_M_tests_36 rfl ?_
    exact rz_pick (ks := [0, 2]) (l := [(0, .ref 116), (2, .int xq2)]) rfl rfl (by decide) rfl (q3.1 b4)
theorem p_M_tests_40 {S : rz_S} {K : Int32 → rz_S → Prop} {a2 : Int32} {s0 : Int32} {s1 : Int32} (w : rz_ev mM_flag [.ref 116, .int s1, .int s0] S (rz_v (fun Sq1 => ((a2 &&& 128 = 0 → rz mM_tests 60 [(0, .ref 116), (2, .int a2)] [.int 0, .int 128, .ref 116] Sq1 (rz_i K)) ∧ (¬ a2 &&& 128 = 0 → rz mM_tests 60 [(0, .ref 116), (2, .int a2)] [.int 1, .int 128, .ref 116] Sq1 (rz_i K)))))) : rz mM_tests 40 [(0, .ref 116), (2, .int a2)] [.int s0, .int s1, .ref 116] S (rz_i K) := by
  refine rz_callVv (t := [.int s0, .int s1]) d_M_tests_40 w_12_656 rfl rfl rfl w (fun Sq1 q1 => ?_)
  refine rz_pure (pc' := 44) d_M_tests_43 rfl ?_
  refine rz_sipush (v := 128) d_M_tests_44 (by decide) ?_
  refine rz_pure (pc' := 48) d_M_tests_47 rfl ?_
  refine rz_sipush (v := 128) d_M_tests_48 (by decide) ?_
  refine rz_iand d_M_tests_51 ?_
  refine rz_ifeq (tgt := 59) d_M_tests_52 rfl (fun b2 => ?_) (fun b2 => ?_)
  · skip
    refine rz_iconst (v := 0) d_M_tests_59 (by decide) ?_
    exact rz_pick (ks := [0, 2]) (l := [(0, .ref 116), (2, .int a2)]) rfl rfl (by decide) rfl (q1.1 b2)
  · skip
    refine rz_iconst (v := 1) d_M_tests_55 (by decide) ?_
    refine rz_pure (pc' := 60) d_M_tests_56 rfl ?_
    exact rz_pick (ks := [0, 2]) (l := [(0, .ref 116), (2, .int a2)]) rfl rfl (by decide) rfl (q1.2 b2)
theorem p_M_tests_60 {S : rz_S} {K : Int32 → rz_S → Prop} {a2 : Int32} {s0 : Int32} {s1 : Int32} (w : rz_ev mM_flag [.ref 116, .int s1, .int s0] S (rz_v (fun Sq1 => ((a2 &&& 64 = 0 → rz mM_tests 78 [] [.int 0, .int 64, .ref 116] Sq1 (rz_i K)) ∧ (¬ a2 &&& 64 = 0 → rz mM_tests 78 [] [.int 1, .int 64, .ref 116] Sq1 (rz_i K)))))) : rz mM_tests 60 [(0, .ref 116), (2, .int a2)] [.int s0, .int s1, .ref 116] S (rz_i K) := by
  refine rz_callVv (t := [.int s0, .int s1]) d_M_tests_60 w_12_656 rfl rfl rfl w (fun Sq1 q1 => ?_)
  refine rz_pure (pc' := 64) d_M_tests_63 rfl ?_
  refine rz_bipush (v := 64) d_M_tests_64 (by decide) ?_
  refine rz_pure (pc' := 67) d_M_tests_66 rfl ?_
  refine rz_bipush (v := 64) d_M_tests_67 (by decide) ?_
  refine rz_iand d_M_tests_69 ?_
  refine rz_ifeq (tgt := 77) d_M_tests_70 rfl (fun b2 => ?_) (fun b2 => ?_)
  · skip
    refine rz_iconst (v := 0) d_M_tests_77 (by decide) ?_
    exact rz_pick (ks := []) (l := []) rfl rfl (by decide) rfl (q1.1 b2)
  · skip
    refine rz_iconst (v := 1) d_M_tests_73 (by decide) ?_
    refine rz_pure (pc' := 78) d_M_tests_74 rfl ?_
    exact rz_pick (ks := []) (l := []) rfl rfl (by decide) rfl (q1.2 b2)
theorem p_M_tests_78 {S : rz_S} {K : Int32 → rz_S → Prop} {s0 : Int32} {s1 : Int32} (w : rz_ev mM_flag [.ref 116, .int s1, .int s0] S (rz_v (fun Sq1 => K 1 Sq1))) : rz mM_tests 78 [] [.int s0, .int s1, .ref 116] S (rz_i K) := by
  refine rz_callVv (t := [.int s0, .int s1]) d_M_tests_78 w_12_656 rfl rfl rfl w (fun Sq1 q1 => ?_)
  refine rz_iconst (v := 1) d_M_tests_81 (by decide) ?_
  exact rz_ireti d_M_tests_82 rfl (by decide) q1
theorem d_M_takes2_0 : decode (rm_code mM_takes2) 0 = .ok (.aload_n 0, 1) := by decide +kernel
theorem d_M_takes2_1 : decode (rm_code mM_takes2) 1 = .ok (.aload_n 0, 1) := by decide +kernel
theorem d_M_takes2_2 : decode (rm_code mM_takes2) 2 = .ok (.getfield 641, 3) := by decide +kernel
theorem d_M_takes2_5 : decode (rm_code mM_takes2) 5 = .ok (.iload_n 1, 1) := by decide +kernel
theorem d_M_takes2_6 : decode (rm_code mM_takes2) 6 = .ok (.iadd, 1) := by decide +kernel
theorem d_M_takes2_7 : decode (rm_code mM_takes2) 7 = .ok (.putfield 641, 3) := by decide +kernel
theorem d_M_takes2_10 : decode (rm_code mM_takes2) 10 = .ok (.iconst 1, 1) := by decide +kernel
theorem d_M_takes2_11 : decode (rm_code mM_takes2) 11 = .ok (.ireturn, 1) := by decide +kernel
theorem p_M_takes2_0 {S : rz_S} {K : Int32 → rz_S → Prop} {a1 : Int32} (w : K 1 (rz_uI S 116 81 ((S.2 116 81) + a1))) : rz mM_takes2 0 [(0, .ref 116), (1, .int a1)] [] S (rz_i K) := by
  refine rz_pure (pc' := 1) d_M_takes2_0 rfl ?_
  refine rz_pure (pc' := 2) d_M_takes2_1 rfl ?_
  refine rz_getiv (v := S.2 116 81) d_M_takes2_2 f_12_641 rfl rfl rfl ?_
  refine rz_pure (pc' := 6) d_M_takes2_5 rfl ?_
  refine rz_iadd d_M_takes2_6 ?_
  refine rz_puti d_M_takes2_7 f_12_641 rfl rfl rfl ?_
  refine rz_iconst (v := 1) d_M_takes2_10 (by decide) ?_
  exact rz_ireti d_M_takes2_11 rfl (by decide) w
theorem d_M_step_0 : decode (rm_code mM_step) 0 = .ok (.iload_n 1, 1) := by decide +kernel
theorem d_M_step_1 : decode (rm_code mM_step) 1 = .ok (.iconst 3, 1) := by decide +kernel
theorem d_M_step_2 : decode (rm_code mM_step) 2 = .ok (.iand, 1) := by decide +kernel
theorem d_M_step_3 : decode (rm_code mM_step) 3 = .ok (.iconst 1, 1) := by decide +kernel
theorem d_M_step_4 : decode (rm_code mM_step) 4 = .ok (.if_icmp .ne (9), 3) := by decide +kernel
theorem d_M_step_7 : decode (rm_code mM_step) 7 = .ok (.aload_n 0, 1) := by decide +kernel
theorem d_M_step_8 : decode (rm_code mM_step) 8 = .ok (.iload_n 1, 1) := by decide +kernel
theorem d_M_step_9 : decode (rm_code mM_step) 9 = .ok (.invokevirtual 696, 3) := by decide +kernel
theorem d_M_step_12 : decode (rm_code mM_step) 12 = .ok (.ireturn, 1) := by decide +kernel
theorem d_M_step_13 : decode (rm_code mM_step) 13 = .ok (.iload_n 1, 1) := by decide +kernel
theorem d_M_step_14 : decode (rm_code mM_step) 14 = .ok (.iconst 3, 1) := by decide +kernel
theorem d_M_step_15 : decode (rm_code mM_step) 15 = .ok (.iand, 1) := by decide +kernel
theorem d_M_step_16 : decode (rm_code mM_step) 16 = .ok (.iconst 3, 1) := by decide +kernel
theorem d_M_step_17 : decode (rm_code mM_step) 17 = .ok (.if_icmp .ne (5), 3) := by decide +kernel
theorem d_M_step_20 : decode (rm_code mM_step) 20 = .ok (.iconst 0, 1) := by decide +kernel
theorem d_M_step_21 : decode (rm_code mM_step) 21 = .ok (.ireturn, 1) := by decide +kernel
theorem d_M_step_22 : decode (rm_code mM_step) 22 = .ok (.iload_n 1, 1) := by decide +kernel
theorem d_M_step_23 : decode (rm_code mM_step) 23 = .ok (.iconst 3, 1) := by decide +kernel
theorem d_M_step_24 : decode (rm_code mM_step) 24 = .ok (.iand, 1) := by decide +kernel
theorem d_M_step_25 : decode (rm_code mM_step) 25 = .ok (.iconst 2, 1) := by decide +kernel
theorem d_M_step_26 : decode (rm_code mM_step) 26 = .ok (.if_icmp .ne (9), 3) := by decide +kernel
theorem d_M_step_29 : decode (rm_code mM_step) 29 = .ok (.aload_n 0, 1) := by decide +kernel
theorem d_M_step_30 : decode (rm_code mM_step) 30 = .ok (.iload_n 1, 1) := by decide +kernel
theorem d_M_step_31 : decode (rm_code mM_step) 31 = .ok (.invokevirtual 699, 3) := by decide +kernel
theorem d_M_step_34 : decode (rm_code mM_step) 34 = .ok (.ireturn, 1) := by decide +kernel
theorem d_M_step_35 : decode (rm_code mM_step) 35 = .ok (.aload_n 0, 1) := by decide +kernel
theorem d_M_step_36 : decode (rm_code mM_step) 36 = .ok (.iload_n 1, 1) := by decide +kernel
theorem d_M_step_37 : decode (rm_code mM_step) 37 = .ok (.invokevirtual 702, 3) := by decide +kernel
theorem d_M_step_40 : decode (rm_code mM_step) 40 = .ok (.ireturn, 1) := by decide +kernel
theorem p_M_step_0 {S : rz_S} {K : Int32 → rz_S → Prop} {a1 : Int32} (w : ((a1 &&& 3 = 1 → rz_ev mM_works [.ref 116, .int a1] S (rz_i (fun xq6 Sq6 => (xq6 = 0 ∨ xq6 = 1) ∧ K xq6 Sq6))) ∧ (¬ a1 &&& 3 = 1 → ((a1 &&& 3 = 3 → K 0 S) ∧ (¬ a1 &&& 3 = 3 → ((a1 &&& 3 = 2 → rz_ev mM_twos [.ref 116, .int a1] S (rz_i (fun xq5 Sq5 => (xq5 = 0 ∨ xq5 = 1) ∧ K xq5 Sq5))) ∧ (¬ a1 &&& 3 = 2 → rz_ev mM_zeros [.ref 116, .int a1] S (rz_i (fun xq4 Sq4 => (xq4 = 0 ∨ xq4 = 1) ∧ K xq4 Sq4))))))))) : rz mM_step 0 [(0, .ref 116), (1, .int a1)] [] S (rz_i K) := by
  refine rz_pure (pc' := 1) d_M_step_0 rfl ?_
  refine rz_iconst (v := 3) d_M_step_1 (by decide) ?_
  refine rz_iand d_M_step_2 ?_
  refine rz_iconst (v := 1) d_M_step_3 (by decide) ?_
  refine rz_icmpne (tgt := 13) d_M_step_4 rfl (fun b1 => ?_) (fun b1 => ?_)
  · skip
    refine rz_pure (pc' := 14) d_M_step_13 rfl ?_
    refine rz_iconst (v := 3) d_M_step_14 (by decide) ?_
    refine rz_iand d_M_step_15 ?_
    refine rz_iconst (v := 3) d_M_step_16 (by decide) ?_
    refine rz_icmpne (tgt := 22) d_M_step_17 rfl (fun b2 => ?_) (fun b2 => ?_)
    · skip
      refine rz_pure (pc' := 23) d_M_step_22 rfl ?_
      refine rz_iconst (v := 3) d_M_step_23 (by decide) ?_
      refine rz_iand d_M_step_24 ?_
      refine rz_iconst (v := 2) d_M_step_25 (by decide) ?_
      refine rz_icmpne (tgt := 35) d_M_step_26 rfl (fun b3 => ?_) (fun b3 => ?_)
      · skip
        refine rz_pure (pc' := 36) d_M_step_35 rfl ?_
        refine rz_pure (pc' := 37) d_M_step_36 rfl ?_
        refine rz_callVi (t := [.int a1]) d_M_step_37 w_12_702 rfl rfl rfl (((w.2 b1).2 b2).2 b3) (fun xq4 Sq4 q4 => ?_)
        exact rz_ireti d_M_step_40 rfl (rz_bnok q4.1) q4.2
      · skip
        refine rz_pure (pc' := 30) d_M_step_29 rfl ?_
        refine rz_pure (pc' := 31) d_M_step_30 rfl ?_
        refine rz_callVi (t := [.int a1]) d_M_step_31 w_12_699 rfl rfl rfl (((w.2 b1).2 b2).1 b3) (fun xq5 Sq5 q5 => ?_)
        exact rz_ireti d_M_step_34 rfl (rz_bnok q5.1) q5.2
    · skip
      refine rz_iconst (v := 0) d_M_step_20 (by decide) ?_
      exact rz_ireti d_M_step_21 rfl (by decide) ((w.2 b1).1 b2)
  · skip
    refine rz_pure (pc' := 8) d_M_step_7 rfl ?_
    refine rz_pure (pc' := 9) d_M_step_8 rfl ?_
    refine rz_callVi (t := [.int a1]) d_M_step_9 w_12_696 rfl rfl rfl (w.1 b1) (fun xq6 Sq6 q6 => ?_)
    exact rz_ireti d_M_step_12 rfl (rz_bnok q6.1) q6.2
theorem d_M_twos_0 : decode (rm_code mM_twos) 0 = .ok (.iload_n 1, 1) := by decide +kernel
theorem d_M_twos_1 : decode (rm_code mM_twos) 1 = .ok (.lookupswitch (568) #[((6), (368)), ((10), (347)), ((14), (388)), ((22), (378)), ((30), (398)), ((38), (368)), ((42), (347)), ((46), (388)), ((54), (378)), ((62), (398)), ((70), (368)), ((74), (347)), ((78), (388)), ((86), (378)), ((94), (398)), ((102), (368)), ((106), (347)), ((110), (388)), ((118), (378)), ((126), (398)), ((134), (408)), ((138), (474)), ((142), (428)), ((150), (418)), ((154), (492)), ((162), (438)), ((166), (445)), ((170), (506)), ((174), (459)), ((182), (452)), ((186), (524)), ((190), (466)), ((198), (368)), ((202), (542)), ((206), (388)), ((214), (378)), ((222), (398)), ((230), (368)), ((234), (562)), ((238), (388)), ((246), (378)), ((254), (398))], 347) := by decide +kernel
theorem d_M_twos_348 : decode (rm_code mM_twos) 348 = .ok (.aload_n 0, 1) := by decide +kernel
theorem d_M_twos_349 : decode (rm_code mM_twos) 349 = .ok (.aload_n 0, 1) := by decide +kernel
theorem d_M_twos_350 : decode (rm_code mM_twos) 350 = .ok (.iload_n 1, 1) := by decide +kernel
theorem d_M_twos_351 : decode (rm_code mM_twos) 351 = .ok (.iconst 5, 1) := by decide +kernel
theorem d_M_twos_352 : decode (rm_code mM_twos) 352 = .ok (.ishr, 1) := by decide +kernel
theorem d_M_twos_353 : decode (rm_code mM_twos) 353 = .ok (.aload_n 0, 1) := by decide +kernel
theorem d_M_twos_354 : decode (rm_code mM_twos) 354 = .ok (.getfield 626, 3) := by decide +kernel
theorem d_M_twos_357 : decode (rm_code mM_twos) 357 = .ok (.invokevirtual 693, 3) := by decide +kernel
theorem d_M_twos_360 : decode (rm_code mM_twos) 360 = .ok (.putfield 626, 3) := by decide +kernel
theorem d_M_twos_363 : decode (rm_code mM_twos) 363 = .ok (.aload_n 0, 1) := by decide +kernel
theorem d_M_twos_364 : decode (rm_code mM_twos) 364 = .ok (.iconst 2, 1) := by decide +kernel
theorem d_M_twos_365 : decode (rm_code mM_twos) 365 = .ok (.invokevirtual 704, 3) := by decide +kernel
theorem d_M_twos_368 : decode (rm_code mM_twos) 368 = .ok (.ireturn, 1) := by decide +kernel
theorem d_M_twos_369 : decode (rm_code mM_twos) 369 = .ok (.aload_n 0, 1) := by decide +kernel
theorem d_M_twos_370 : decode (rm_code mM_twos) 370 = .ok (.iload_n 1, 1) := by decide +kernel
theorem d_M_twos_371 : decode (rm_code mM_twos) 371 = .ok (.iconst 5, 1) := by decide +kernel
theorem d_M_twos_372 : decode (rm_code mM_twos) 372 = .ok (.ishr, 1) := by decide +kernel
theorem d_M_twos_373 : decode (rm_code mM_twos) 373 = .ok (.iconst 1, 1) := by decide +kernel
theorem d_M_twos_374 : decode (rm_code mM_twos) 374 = .ok (.invokevirtual 707, 3) := by decide +kernel
theorem d_M_twos_377 : decode (rm_code mM_twos) 377 = .ok (.iconst 1, 1) := by decide +kernel
theorem d_M_twos_378 : decode (rm_code mM_twos) 378 = .ok (.ireturn, 1) := by decide +kernel
theorem d_M_twos_379 : decode (rm_code mM_twos) 379 = .ok (.aload_n 0, 1) := by decide +kernel
theorem d_M_twos_380 : decode (rm_code mM_twos) 380 = .ok (.iload_n 1, 1) := by decide +kernel
theorem d_M_twos_381 : decode (rm_code mM_twos) 381 = .ok (.iconst 5, 1) := by decide +kernel
theorem d_M_twos_382 : decode (rm_code mM_twos) 382 = .ok (.ishr, 1) := by decide +kernel
theorem d_M_twos_383 : decode (rm_code mM_twos) 383 = .ok (.iconst 2, 1) := by decide +kernel
theorem d_M_twos_384 : decode (rm_code mM_twos) 384 = .ok (.invokevirtual 707, 3) := by decide +kernel
theorem d_M_twos_387 : decode (rm_code mM_twos) 387 = .ok (.iconst 1, 1) := by decide +kernel
theorem d_M_twos_388 : decode (rm_code mM_twos) 388 = .ok (.ireturn, 1) := by decide +kernel
theorem d_M_twos_389 : decode (rm_code mM_twos) 389 = .ok (.aload_n 0, 1) := by decide +kernel
theorem d_M_twos_390 : decode (rm_code mM_twos) 390 = .ok (.iload_n 1, 1) := by decide +kernel
theorem d_M_twos_391 : decode (rm_code mM_twos) 391 = .ok (.iconst 5, 1) := by decide +kernel
theorem d_M_twos_392 : decode (rm_code mM_twos) 392 = .ok (.ishr, 1) := by decide +kernel
theorem d_M_twos_393 : decode (rm_code mM_twos) 393 = .ok (.iconst 4, 1) := by decide +kernel
theorem d_M_twos_394 : decode (rm_code mM_twos) 394 = .ok (.invokevirtual 707, 3) := by decide +kernel
theorem d_M_twos_397 : decode (rm_code mM_twos) 397 = .ok (.iconst 1, 1) := by decide +kernel
theorem d_M_twos_398 : decode (rm_code mM_twos) 398 = .ok (.ireturn, 1) := by decide +kernel
theorem d_M_twos_399 : decode (rm_code mM_twos) 399 = .ok (.aload_n 0, 1) := by decide +kernel
theorem d_M_twos_400 : decode (rm_code mM_twos) 400 = .ok (.iload_n 1, 1) := by decide +kernel
theorem d_M_twos_401 : decode (rm_code mM_twos) 401 = .ok (.iconst 5, 1) := by decide +kernel
theorem d_M_twos_402 : decode (rm_code mM_twos) 402 = .ok (.ishr, 1) := by decide +kernel
theorem d_M_twos_403 : decode (rm_code mM_twos) 403 = .ok (.iconst 5, 1) := by decide +kernel
theorem d_M_twos_404 : decode (rm_code mM_twos) 404 = .ok (.invokevirtual 707, 3) := by decide +kernel
theorem d_M_twos_407 : decode (rm_code mM_twos) 407 = .ok (.iconst 1, 1) := by decide +kernel
theorem d_M_twos_408 : decode (rm_code mM_twos) 408 = .ok (.ireturn, 1) := by decide +kernel
theorem d_M_twos_409 : decode (rm_code mM_twos) 409 = .ok (.aload_n 0, 1) := by decide +kernel
theorem d_M_twos_410 : decode (rm_code mM_twos) 410 = .ok (.aload_n 0, 1) := by decide +kernel
theorem d_M_twos_411 : decode (rm_code mM_twos) 411 = .ok (.getfield 629, 3) := by decide +kernel
theorem d_M_twos_414 : decode (rm_code mM_twos) 414 = .ok (.iconst 1, 1) := by decide +kernel
theorem d_M_twos_415 : decode (rm_code mM_twos) 415 = .ok (.invokevirtual 710, 3) := by decide +kernel
theorem d_M_twos_418 : decode (rm_code mM_twos) 418 = .ok (.ireturn, 1) := by decide +kernel
theorem d_M_twos_419 : decode (rm_code mM_twos) 419 = .ok (.aload_n 0, 1) := by decide +kernel
theorem d_M_twos_420 : decode (rm_code mM_twos) 420 = .ok (.aload_n 0, 1) := by decide +kernel
theorem d_M_twos_421 : decode (rm_code mM_twos) 421 = .ok (.getfield 629, 3) := by decide +kernel
theorem d_M_twos_424 : decode (rm_code mM_twos) 424 = .ok (.iconst 3, 1) := by decide +kernel
theorem d_M_twos_425 : decode (rm_code mM_twos) 425 = .ok (.invokevirtual 710, 3) := by decide +kernel
theorem d_M_twos_428 : decode (rm_code mM_twos) 428 = .ok (.ireturn, 1) := by decide +kernel
theorem d_M_twos_429 : decode (rm_code mM_twos) 429 = .ok (.aload_n 0, 1) := by decide +kernel
theorem d_M_twos_430 : decode (rm_code mM_twos) 430 = .ok (.aload_n 0, 1) := by decide +kernel
theorem d_M_twos_431 : decode (rm_code mM_twos) 431 = .ok (.getfield 629, 3) := by decide +kernel
theorem d_M_twos_434 : decode (rm_code mM_twos) 434 = .ok (.iconst 4, 1) := by decide +kernel
theorem d_M_twos_435 : decode (rm_code mM_twos) 435 = .ok (.invokevirtual 710, 3) := by decide +kernel
theorem d_M_twos_438 : decode (rm_code mM_twos) 438 = .ok (.ireturn, 1) := by decide +kernel
theorem d_M_twos_439 : decode (rm_code mM_twos) 439 = .ok (.aload_n 0, 1) := by decide +kernel
theorem d_M_twos_440 : decode (rm_code mM_twos) 440 = .ok (.iconst 0, 1) := by decide +kernel
theorem d_M_twos_441 : decode (rm_code mM_twos) 441 = .ok (.iconst 0, 1) := by decide +kernel
theorem d_M_twos_442 : decode (rm_code mM_twos) 442 = .ok (.invokevirtual 713, 3) := by decide +kernel
theorem d_M_twos_445 : decode (rm_code mM_twos) 445 = .ok (.ireturn, 1) := by decide +kernel
theorem d_M_twos_446 : decode (rm_code mM_twos) 446 = .ok (.aload_n 0, 1) := by decide +kernel
theorem d_M_twos_447 : decode (rm_code mM_twos) 447 = .ok (.iconst 0, 1) := by decide +kernel
theorem d_M_twos_448 : decode (rm_code mM_twos) 448 = .ok (.iconst 1, 1) := by decide +kernel
theorem d_M_twos_449 : decode (rm_code mM_twos) 449 = .ok (.invokevirtual 713, 3) := by decide +kernel
theorem d_M_twos_452 : decode (rm_code mM_twos) 452 = .ok (.ireturn, 1) := by decide +kernel
theorem d_M_twos_453 : decode (rm_code mM_twos) 453 = .ok (.aload_n 0, 1) := by decide +kernel
theorem d_M_twos_454 : decode (rm_code mM_twos) 454 = .ok (.iconst 0, 1) := by decide +kernel
theorem d_M_twos_455 : decode (rm_code mM_twos) 455 = .ok (.iconst 3, 1) := by decide +kernel
theorem d_M_twos_456 : decode (rm_code mM_twos) 456 = .ok (.invokevirtual 713, 3) := by decide +kernel
theorem d_M_twos_459 : decode (rm_code mM_twos) 459 = .ok (.ireturn, 1) := by decide +kernel
theorem d_M_twos_460 : decode (rm_code mM_twos) 460 = .ok (.aload_n 0, 1) := by decide +kernel
theorem d_M_twos_461 : decode (rm_code mM_twos) 461 = .ok (.iconst 0, 1) := by decide +kernel
theorem d_M_twos_462 : decode (rm_code mM_twos) 462 = .ok (.iconst 4, 1) := by decide +kernel
theorem d_M_twos_463 : decode (rm_code mM_twos) 463 = .ok (.invokevirtual 713, 3) := by decide +kernel
theorem d_M_twos_466 : decode (rm_code mM_twos) 466 = .ok (.ireturn, 1) := by decide +kernel
theorem d_M_twos_467 : decode (rm_code mM_twos) 467 = .ok (.aload_n 0, 1) := by decide +kernel
theorem d_M_twos_468 : decode (rm_code mM_twos) 468 = .ok (.iconst 0, 1) := by decide +kernel
theorem d_M_twos_469 : decode (rm_code mM_twos) 469 = .ok (.bipush (6), 2) := by decide +kernel
theorem d_M_twos_471 : decode (rm_code mM_twos) 471 = .ok (.invokevirtual 713, 3) := by decide +kernel
theorem d_M_twos_474 : decode (rm_code mM_twos) 474 = .ok (.ireturn, 1) := by decide +kernel
theorem d_M_twos_475 : decode (rm_code mM_twos) 475 = .ok (.aload_n 0, 1) := by decide +kernel
theorem d_M_twos_476 : decode (rm_code mM_twos) 476 = .ok (.aload_n 0, 1) := by decide +kernel
theorem d_M_twos_477 : decode (rm_code mM_twos) 477 = .ok (.aload_n 0, 1) := by decide +kernel
theorem d_M_twos_478 : decode (rm_code mM_twos) 478 = .ok (.getfield 629, 3) := by decide +kernel
theorem d_M_twos_481 : decode (rm_code mM_twos) 481 = .ok (.invokevirtual 669, 3) := by decide +kernel
theorem d_M_twos_484 : decode (rm_code mM_twos) 484 = .ok (.putfield 626, 3) := by decide +kernel
theorem d_M_twos_487 : decode (rm_code mM_twos) 487 = .ok (.aload_n 0, 1) := by decide +kernel
theorem d_M_twos_488 : decode (rm_code mM_twos) 488 = .ok (.iconst 2, 1) := by decide +kernel
theorem d_M_twos_489 : decode (rm_code mM_twos) 489 = .ok (.invokevirtual 704, 3) := by decide +kernel
theorem d_M_twos_492 : decode (rm_code mM_twos) 492 = .ok (.ireturn, 1) := by decide +kernel
theorem d_M_twos_493 : decode (rm_code mM_twos) 493 = .ok (.aload_n 0, 1) := by decide +kernel
theorem d_M_twos_494 : decode (rm_code mM_twos) 494 = .ok (.aload_n 0, 1) := by decide +kernel
theorem d_M_twos_495 : decode (rm_code mM_twos) 495 = .ok (.getfield 629, 3) := by decide +kernel
theorem d_M_twos_498 : decode (rm_code mM_twos) 498 = .ok (.putfield 635, 3) := by decide +kernel
theorem d_M_twos_501 : decode (rm_code mM_twos) 501 = .ok (.aload_n 0, 1) := by decide +kernel
theorem d_M_twos_502 : decode (rm_code mM_twos) 502 = .ok (.iconst 2, 1) := by decide +kernel
theorem d_M_twos_503 : decode (rm_code mM_twos) 503 = .ok (.invokevirtual 704, 3) := by decide +kernel
theorem d_M_twos_506 : decode (rm_code mM_twos) 506 = .ok (.ireturn, 1) := by decide +kernel
theorem d_M_twos_507 : decode (rm_code mM_twos) 507 = .ok (.aload_n 0, 1) := by decide +kernel
theorem d_M_twos_508 : decode (rm_code mM_twos) 508 = .ok (.aload_n 0, 1) := by decide +kernel
theorem d_M_twos_509 : decode (rm_code mM_twos) 509 = .ok (.aload_n 0, 1) := by decide +kernel
theorem d_M_twos_510 : decode (rm_code mM_twos) 510 = .ok (.getfield 626, 3) := by decide +kernel
theorem d_M_twos_513 : decode (rm_code mM_twos) 513 = .ok (.invokevirtual 669, 3) := by decide +kernel
theorem d_M_twos_516 : decode (rm_code mM_twos) 516 = .ok (.putfield 629, 3) := by decide +kernel
theorem d_M_twos_519 : decode (rm_code mM_twos) 519 = .ok (.aload_n 0, 1) := by decide +kernel
theorem d_M_twos_520 : decode (rm_code mM_twos) 520 = .ok (.iconst 2, 1) := by decide +kernel
theorem d_M_twos_521 : decode (rm_code mM_twos) 521 = .ok (.invokevirtual 704, 3) := by decide +kernel
theorem d_M_twos_524 : decode (rm_code mM_twos) 524 = .ok (.ireturn, 1) := by decide +kernel
theorem d_M_twos_525 : decode (rm_code mM_twos) 525 = .ok (.aload_n 0, 1) := by decide +kernel
theorem d_M_twos_526 : decode (rm_code mM_twos) 526 = .ok (.aload_n 0, 1) := by decide +kernel
theorem d_M_twos_527 : decode (rm_code mM_twos) 527 = .ok (.aload_n 0, 1) := by decide +kernel
theorem d_M_twos_528 : decode (rm_code mM_twos) 528 = .ok (.getfield 635, 3) := by decide +kernel
theorem d_M_twos_531 : decode (rm_code mM_twos) 531 = .ok (.invokevirtual 669, 3) := by decide +kernel
theorem d_M_twos_534 : decode (rm_code mM_twos) 534 = .ok (.putfield 629, 3) := by decide +kernel
theorem d_M_twos_537 : decode (rm_code mM_twos) 537 = .ok (.aload_n 0, 1) := by decide +kernel
theorem d_M_twos_538 : decode (rm_code mM_twos) 538 = .ok (.iconst 2, 1) := by decide +kernel
theorem d_M_twos_539 : decode (rm_code mM_twos) 539 = .ok (.invokevirtual 704, 3) := by decide +kernel
theorem d_M_twos_542 : decode (rm_code mM_twos) 542 = .ok (.ireturn, 1) := by decide +kernel
theorem d_M_twos_543 : decode (rm_code mM_twos) 543 = .ok (.aload_n 0, 1) := by decide +kernel
theorem d_M_twos_544 : decode (rm_code mM_twos) 544 = .ok (.aload_n 0, 1) := by decide +kernel
theorem d_M_twos_545 : decode (rm_code mM_twos) 545 = .ok (.aload_n 0, 1) := by decide +kernel
theorem d_M_twos_546 : decode (rm_code mM_twos) 546 = .ok (.getfield 629, 3) := by decide +kernel
theorem d_M_twos_549 : decode (rm_code mM_twos) 549 = .ok (.iconst 1, 1) := by decide +kernel
theorem d_M_twos_550 : decode (rm_code mM_twos) 550 = .ok (.isub, 1) := by decide +kernel
theorem d_M_twos_551 : decode (rm_code mM_twos) 551 = .ok (.invokevirtual 669, 3) := by decide +kernel
theorem d_M_twos_554 : decode (rm_code mM_twos) 554 = .ok (.putfield 629, 3) := by decide +kernel
theorem d_M_twos_557 : decode (rm_code mM_twos) 557 = .ok (.aload_n 0, 1) := by decide +kernel
theorem d_M_twos_558 : decode (rm_code mM_twos) 558 = .ok (.iconst 2, 1) := by decide +kernel
theorem d_M_twos_559 : decode (rm_code mM_twos) 559 = .ok (.invokevirtual 704, 3) := by decide +kernel
theorem d_M_twos_562 : decode (rm_code mM_twos) 562 = .ok (.ireturn, 1) := by decide +kernel
theorem d_M_twos_563 : decode (rm_code mM_twos) 563 = .ok (.aload_n 0, 1) := by decide +kernel
theorem d_M_twos_564 : decode (rm_code mM_twos) 564 = .ok (.iconst 2, 1) := by decide +kernel
theorem d_M_twos_565 : decode (rm_code mM_twos) 565 = .ok (.invokevirtual 704, 3) := by decide +kernel
theorem d_M_twos_568 : decode (rm_code mM_twos) 568 = .ok (.ireturn, 1) := by decide +kernel
theorem d_M_twos_569 : decode (rm_code mM_twos) 569 = .ok (.iconst 0, 1) := by decide +kernel
theorem d_M_twos_570 : decode (rm_code mM_twos) 570 = .ok (.ireturn, 1) := by decide +kernel
theorem p_M_twos_0 {S : rz_S} {K : Int32 → rz_S → Prop} {a1 : Int32} (w : ((a1 = 6 → rz_ev mM_changes [.ref 116, .int (a1 >>> ((5 : Int32) &&& 31)), .int 1] S (rz_v (fun Sq2 => K 1 Sq2))) ∧ (a1 = 10 → rz_ev mM_shifted [.ref 116, .int (a1 >>> ((5 : Int32) &&& 31)), .int (S.2 116 75)] S (rz_i (fun xq4 Sq4 => rz_ev mM_takes2 [.ref 116, .int 2] (rz_uI Sq4 116 75 xq4) (rz_i (fun xq5 Sq5 => (xq5 = 0 ∨ xq5 = 1) ∧ K xq5 Sq5))))) ∧ (a1 = 14 → rz_ev mM_changes [.ref 116, .int (a1 >>> ((5 : Int32) &&& 31)), .int 4] S (rz_v (fun Sq7 => K 1 Sq7))) ∧ (a1 = 22 → rz_ev mM_changes [.ref 116, .int (a1 >>> ((5 : Int32) &&& 31)), .int 2] S (rz_v (fun Sq9 => K 1 Sq9))) ∧ (a1 = 30 → rz_ev mM_changes [.ref 116, .int (a1 >>> ((5 : Int32) &&& 31)), .int 5] S (rz_v (fun Sq11 => K 1 Sq11))) ∧ (a1 = 38 → rz_ev mM_changes [.ref 116, .int (a1 >>> ((5 : Int32) &&& 31)), .int 1] S (rz_v (fun Sq13 => K 1 Sq13))) ∧ (a1 = 42 → rz_ev mM_shifted [.ref 116, .int (a1 >>> ((5 : Int32) &&& 31)), .int (S.2 116 75)] S (rz_i (fun xq15 Sq15 => rz_ev mM_takes2 [.ref 116, .int 2] (rz_uI Sq15 116 75 xq15) (rz_i (fun xq16 Sq16 => (xq16 = 0 ∨ xq16 = 1) ∧ K xq16 Sq16))))) ∧ (a1 = 46 → rz_ev mM_changes [.ref 116, .int (a1 >>> ((5 : Int32) &&& 31)), .int 4] S (rz_v (fun Sq18 => K 1 Sq18))) ∧ (a1 = 54 → rz_ev mM_changes [.ref 116, .int (a1 >>> ((5 : Int32) &&& 31)), .int 2] S (rz_v (fun Sq20 => K 1 Sq20))) ∧ (a1 = 62 → rz_ev mM_changes [.ref 116, .int (a1 >>> ((5 : Int32) &&& 31)), .int 5] S (rz_v (fun Sq22 => K 1 Sq22))) ∧ (a1 = 70 → rz_ev mM_changes [.ref 116, .int (a1 >>> ((5 : Int32) &&& 31)), .int 1] S (rz_v (fun Sq24 => K 1 Sq24))) ∧ (a1 = 74 → rz_ev mM_shifted [.ref 116, .int (a1 >>> ((5 : Int32) &&& 31)), .int (S.2 116 75)] S (rz_i (fun xq26 Sq26 => rz_ev mM_takes2 [.ref 116, .int 2] (rz_uI Sq26 116 75 xq26) (rz_i (fun xq27 Sq27 => (xq27 = 0 ∨ xq27 = 1) ∧ K xq27 Sq27))))) ∧ (a1 = 78 → rz_ev mM_changes [.ref 116, .int (a1 >>> ((5 : Int32) &&& 31)), .int 4] S (rz_v (fun Sq29 => K 1 Sq29))) ∧ (a1 = 86 → rz_ev mM_changes [.ref 116, .int (a1 >>> ((5 : Int32) &&& 31)), .int 2] S (rz_v (fun Sq31 => K 1 Sq31))) ∧ (a1 = 94 → rz_ev mM_changes [.ref 116, .int (a1 >>> ((5 : Int32) &&& 31)), .int 5] S (rz_v (fun Sq33 => K 1 Sq33))) ∧ (a1 = 102 → rz_ev mM_changes [.ref 116, .int (a1 >>> ((5 : Int32) &&& 31)), .int 1] S (rz_v (fun Sq35 => K 1 Sq35))) ∧ (a1 = 106 → rz_ev mM_shifted [.ref 116, .int (a1 >>> ((5 : Int32) &&& 31)), .int (S.2 116 75)] S (rz_i (fun xq37 Sq37 => rz_ev mM_takes2 [.ref 116, .int 2] (rz_uI Sq37 116 75 xq37) (rz_i (fun xq38 Sq38 => (xq38 = 0 ∨ xq38 = 1) ∧ K xq38 Sq38))))) ∧ (a1 = 110 → rz_ev mM_changes [.ref 116, .int (a1 >>> ((5 : Int32) &&& 31)), .int 4] S (rz_v (fun Sq40 => K 1 Sq40))) ∧ (a1 = 118 → rz_ev mM_changes [.ref 116, .int (a1 >>> ((5 : Int32) &&& 31)), .int 2] S (rz_v (fun Sq42 => K 1 Sq42))) ∧ (a1 = 126 → rz_ev mM_changes [.ref 116, .int (a1 >>> ((5 : Int32) &&& 31)), .int 5] S (rz_v (fun Sq44 => K 1 Sq44))) ∧ (a1 = 134 → rz_ev mM_keeps [.ref 116, .int (S.2 116 76), .int 1] S (rz_i (fun xq46 Sq46 => (xq46 = 0 ∨ xq46 = 1) ∧ K xq46 Sq46))) ∧ (a1 = 138 → rz_ev mM_marks [.ref 116, .int (S.2 116 76)] S (rz_i (fun xq48 Sq48 => rz_ev mM_takes2 [.ref 116, .int 2] (rz_uI Sq48 116 75 xq48) (rz_i (fun xq49 Sq49 => (xq49 = 0 ∨ xq49 = 1) ∧ K xq49 Sq49))))) ∧ (a1 = 142 → rz_ev mM_keeps [.ref 116, .int (S.2 116 76), .int 4] S (rz_i (fun xq51 Sq51 => (xq51 = 0 ∨ xq51 = 1) ∧ K xq51 Sq51))) ∧ (a1 = 150 → rz_ev mM_keeps [.ref 116, .int (S.2 116 76), .int 3] S (rz_i (fun xq53 Sq53 => (xq53 = 0 ∨ xq53 = 1) ∧ K xq53 Sq53))) ∧ (a1 = 154 → rz_ev mM_takes2 [.ref 116, .int 2] (rz_uI S 116 78 (S.2 116 76)) (rz_i (fun xq55 Sq55 => (xq55 = 0 ∨ xq55 = 1) ∧ K xq55 Sq55))) ∧ (a1 = 162 → rz_ev mM_fetches [.ref 116, .int 0, .int 0] S (rz_i (fun xq57 Sq57 => (xq57 = 0 ∨ xq57 = 1) ∧ K xq57 Sq57))) ∧ (a1 = 166 → rz_ev mM_fetches [.ref 116, .int 0, .int 1] S (rz_i (fun xq59 Sq59 => (xq59 = 0 ∨ xq59 = 1) ∧ K xq59 Sq59))) ∧ (a1 = 170 → rz_ev mM_marks [.ref 116, .int (S.2 116 75)] S (rz_i (fun xq61 Sq61 => rz_ev mM_takes2 [.ref 116, .int 2] (rz_uI Sq61 116 76 xq61) (rz_i (fun xq62 Sq62 => (xq62 = 0 ∨ xq62 = 1) ∧ K xq62 Sq62))))) ∧ (a1 = 174 → rz_ev mM_fetches [.ref 116, .int 0, .int 4] S (rz_i (fun xq64 Sq64 => (xq64 = 0 ∨ xq64 = 1) ∧ K xq64 Sq64))) ∧ (a1 = 182 → rz_ev mM_fetches [.ref 116, .int 0, .int 3] S (rz_i (fun xq66 Sq66 => (xq66 = 0 ∨ xq66 = 1) ∧ K xq66 Sq66))) ∧ (a1 = 186 → rz_ev mM_marks [.ref 116, .int (S.2 116 78)] S (rz_i (fun xq68 Sq68 => rz_ev mM_takes2 [.ref 116, .int 2] (rz_uI Sq68 116 76 xq68) (rz_i (fun xq69 Sq69 => (xq69 = 0 ∨ xq69 = 1) ∧ K xq69 Sq69))))) ∧ (a1 = 190 → rz_ev mM_fetches [.ref 116, .int 0, .int 6] S (rz_i (fun xq71 Sq71 => (xq71 = 0 ∨ xq71 = 1) ∧ K xq71 Sq71))) ∧ (a1 = 198 → rz_ev mM_changes [.ref 116, .int (a1 >>> ((5 : Int32) &&& 31)), .int 1] S (rz_v (fun Sq73 => K 1 Sq73))) ∧ (a1 = 202 → rz_ev mM_marks [.ref 116, .int ((S.2 116 76) - 1)] S (rz_i (fun xq75 Sq75 => rz_ev mM_takes2 [.ref 116, .int 2] (rz_uI Sq75 116 76 xq75) (rz_i (fun xq76 Sq76 => (xq76 = 0 ∨ xq76 = 1) ∧ K xq76 Sq76))))) ∧ (a1 = 206 → rz_ev mM_changes [.ref 116, .int (a1 >>> ((5 : Int32) &&& 31)), .int 4] S (rz_v (fun Sq78 => K 1 Sq78))) ∧ (a1 = 214 → rz_ev mM_changes [.ref 116, .int (a1 >>> ((5 : Int32) &&& 31)), .int 2] S (rz_v (fun Sq80 => K 1 Sq80))) ∧ (a1 = 222 → rz_ev mM_changes [.ref 116, .int (a1 >>> ((5 : Int32) &&& 31)), .int 5] S (rz_v (fun Sq82 => K 1 Sq82))) ∧ (a1 = 230 → rz_ev mM_changes [.ref 116, .int (a1 >>> ((5 : Int32) &&& 31)), .int 1] S (rz_v (fun Sq84 => K 1 Sq84))) ∧ (a1 = 234 → rz_ev mM_takes2 [.ref 116, .int 2] S (rz_i (fun xq86 Sq86 => (xq86 = 0 ∨ xq86 = 1) ∧ K xq86 Sq86))) ∧ (a1 = 238 → rz_ev mM_changes [.ref 116, .int (a1 >>> ((5 : Int32) &&& 31)), .int 4] S (rz_v (fun Sq88 => K 1 Sq88))) ∧ (a1 = 246 → rz_ev mM_changes [.ref 116, .int (a1 >>> ((5 : Int32) &&& 31)), .int 2] S (rz_v (fun Sq90 => K 1 Sq90))) ∧ (a1 = 254 → rz_ev mM_changes [.ref 116, .int (a1 >>> ((5 : Int32) &&& 31)), .int 5] S (rz_v (fun Sq92 => K 1 Sq92))) ∧ (¬ a1 = 6 → ¬ a1 = 10 → ¬ a1 = 14 → ¬ a1 = 22 → ¬ a1 = 30 → ¬ a1 = 38 → ¬ a1 = 42 → ¬ a1 = 46 → ¬ a1 = 54 → ¬ a1 = 62 → ¬ a1 = 70 → ¬ a1 = 74 → ¬ a1 = 78 → ¬ a1 = 86 → ¬ a1 = 94 → ¬ a1 = 102 → ¬ a1 = 106 → ¬ a1 = 110 → ¬ a1 = 118 → ¬ a1 = 126 → ¬ a1 = 134 → ¬ a1 = 138 → ¬ a1 = 142 → ¬ a1 = 150 → ¬ a1 = 154 → ¬ a1 = 162 → ¬ a1 = 166 → ¬ a1 = 170 → ¬ a1 = 174 → ¬ a1 = 182 → ¬ a1 = 186 → ¬ a1 = 190 → ¬ a1 = 198 → ¬ a1 = 202 → ¬ a1 = 206 → ¬ a1 = 214 → ¬ a1 = 222 → ¬ a1 = 230 → ¬ a1 = 234 → ¬ a1 = 238 → ¬ a1 = 246 → ¬ a1 = 254 → K 0 S))) : rz mM_twos 0 [(0, .ref 116), (1, .int a1)] [] S (rz_i K) := by
  refine rz_pure (pc' := 1) d_M_twos_0 rfl ?_
  by_cases b1 : a1 = 6
  · refine rz_lsj (v := 6) (tgt := 369) d_M_twos_1 b1 rfl ?_
    refine rz_pure (pc' := 370) d_M_twos_369 rfl ?_
    refine rz_pure (pc' := 371) d_M_twos_370 rfl ?_
    refine rz_iconst (v := 5) d_M_twos_371 (by decide) ?_
    refine rz_ishr d_M_twos_372 ?_
    refine rz_iconst (v := 1) d_M_twos_373 (by decide) ?_
    refine rz_callVv (t := [.int 1, .int (a1 >>> ((5 : Int32) &&& 31))]) d_M_twos_374 w_12_707 rfl rfl rfl (w.1 b1) (fun Sq2 q2 => ?_)
    refine rz_iconst (v := 1) d_M_twos_377 (by decide) ?_
    exact rz_ireti d_M_twos_378 rfl (by decide) q2
  by_cases b3 : a1 = 10
  · refine rz_lsj (v := 10) (tgt := 348) d_M_twos_1 b3 rfl ?_
    refine rz_pure (pc' := 349) d_M_twos_348 rfl ?_
    refine rz_pure (pc' := 350) d_M_twos_349 rfl ?_
    refine rz_pure (pc' := 351) d_M_twos_350 rfl ?_
    refine rz_iconst (v := 5) d_M_twos_351 (by decide) ?_
    refine rz_ishr d_M_twos_352 ?_
    refine rz_pure (pc' := 354) d_M_twos_353 rfl ?_
    refine rz_getiv (v := S.2 116 75) d_M_twos_354 f_12_626 rfl rfl rfl ?_
    refine rz_callVi (t := [.int (S.2 116 75), .int (a1 >>> ((5 : Int32) &&& 31))]) d_M_twos_357 w_12_693 rfl rfl rfl (w.2.1 b3) (fun xq4 Sq4 q4 => ?_)
    refine rz_puti d_M_twos_360 f_12_626 rfl rfl rfl ?_
    refine rz_pure (pc' := 364) d_M_twos_363 rfl ?_
    refine rz_iconst (v := 2) d_M_twos_364 (by decide) ?_
    refine rz_callVi (t := [.int 2]) d_M_twos_365 w_12_704 rfl rfl rfl q4 (fun xq5 Sq5 q5 => ?_)
    exact rz_ireti d_M_twos_368 rfl (rz_bnok q5.1) q5.2
  by_cases b6 : a1 = 14
  · refine rz_lsj (v := 14) (tgt := 389) d_M_twos_1 b6 rfl ?_
    refine rz_pure (pc' := 390) d_M_twos_389 rfl ?_
    refine rz_pure (pc' := 391) d_M_twos_390 rfl ?_
    refine rz_iconst (v := 5) d_M_twos_391 (by decide) ?_
    refine rz_ishr d_M_twos_392 ?_
    refine rz_iconst (v := 4) d_M_twos_393 (by decide) ?_
    refine rz_callVv (t := [.int 4, .int (a1 >>> ((5 : Int32) &&& 31))]) d_M_twos_394 w_12_707 rfl rfl rfl (w.2.2.1 b6) (fun Sq7 q7 => ?_)
    refine rz_iconst (v := 1) d_M_twos_397 (by decide) ?_
    exact rz_ireti d_M_twos_398 rfl (by decide) q7
  by_cases b8 : a1 = 22
  · refine rz_lsj (v := 22) (tgt := 379) d_M_twos_1 b8 rfl ?_
    refine rz_pure (pc' := 380) d_M_twos_379 rfl ?_
    refine rz_pure (pc' := 381) d_M_twos_380 rfl ?_
    refine rz_iconst (v := 5) d_M_twos_381 (by decide) ?_
    refine rz_ishr d_M_twos_382 ?_
    refine rz_iconst (v := 2) d_M_twos_383 (by decide) ?_
    refine rz_callVv (t := [.int 2, .int (a1 >>> ((5 : Int32) &&& 31))]) d_M_twos_384 w_12_707 rfl rfl rfl (w.2.2.2.1 b8) (fun Sq9 q9 => ?_)
    refine rz_iconst (v := 1) d_M_twos_387 (by decide) ?_
    exact rz_ireti d_M_twos_388 rfl (by decide) q9
  by_cases b10 : a1 = 30
  · refine rz_lsj (v := 30) (tgt := 399) d_M_twos_1 b10 rfl ?_
    refine rz_pure (pc' := 400) d_M_twos_399 rfl ?_
    refine rz_pure (pc' := 401) d_M_twos_400 rfl ?_
    refine rz_iconst (v := 5) d_M_twos_401 (by decide) ?_
    refine rz_ishr d_M_twos_402 ?_
    refine rz_iconst (v := 5) d_M_twos_403 (by decide) ?_
    refine rz_callVv (t := [.int 5, .int (a1 >>> ((5 : Int32) &&& 31))]) d_M_twos_404 w_12_707 rfl rfl rfl (w.2.2.2.2.1 b10) (fun Sq11 q11 => ?_)
    refine rz_iconst (v := 1) d_M_twos_407 (by decide) ?_
    exact rz_ireti d_M_twos_408 rfl (by decide) q11
  by_cases b12 : a1 = 38
  · refine rz_lsj (v := 38) (tgt := 369) d_M_twos_1 b12 rfl ?_
    refine rz_pure (pc' := 370) d_M_twos_369 rfl ?_
    refine rz_pure (pc' := 371) d_M_twos_370 rfl ?_
    refine rz_iconst (v := 5) d_M_twos_371 (by decide) ?_
    refine rz_ishr d_M_twos_372 ?_
    refine rz_iconst (v := 1) d_M_twos_373 (by decide) ?_
    refine rz_callVv (t := [.int 1, .int (a1 >>> ((5 : Int32) &&& 31))]) d_M_twos_374 w_12_707 rfl rfl rfl (w.2.2.2.2.2.1 b12) (fun Sq13 q13 => ?_)
    refine rz_iconst (v := 1) d_M_twos_377 (by decide) ?_
    exact rz_ireti d_M_twos_378 rfl (by decide) q13
  by_cases b14 : a1 = 42
  · refine rz_lsj (v := 42) (tgt := 348) d_M_twos_1 b14 rfl ?_
    refine rz_pure (pc' := 349) d_M_twos_348 rfl ?_
    refine rz_pure (pc' := 350) d_M_twos_349 rfl ?_
    refine rz_pure (pc' := 351) d_M_twos_350 rfl ?_
    refine rz_iconst (v := 5) d_M_twos_351 (by decide) ?_
    refine rz_ishr d_M_twos_352 ?_
    refine rz_pure (pc' := 354) d_M_twos_353 rfl ?_
    refine rz_getiv (v := S.2 116 75) d_M_twos_354 f_12_626 rfl rfl rfl ?_
    refine rz_callVi (t := [.int (S.2 116 75), .int (a1 >>> ((5 : Int32) &&& 31))]) d_M_twos_357 w_12_693 rfl rfl rfl (w.2.2.2.2.2.2.1 b14) (fun xq15 Sq15 q15 => ?_)
    refine rz_puti d_M_twos_360 f_12_626 rfl rfl rfl ?_
    refine rz_pure (pc' := 364) d_M_twos_363 rfl ?_
    refine rz_iconst (v := 2) d_M_twos_364 (by decide) ?_
    refine rz_callVi (t := [.int 2]) d_M_twos_365 w_12_704 rfl rfl rfl q15 (fun xq16 Sq16 q16 => ?_)
    exact rz_ireti d_M_twos_368 rfl (rz_bnok q16.1) q16.2
  by_cases b17 : a1 = 46
  · refine rz_lsj (v := 46) (tgt := 389) d_M_twos_1 b17 rfl ?_
    refine rz_pure (pc' := 390) d_M_twos_389 rfl ?_
    refine rz_pure (pc' := 391) d_M_twos_390 rfl ?_
    refine rz_iconst (v := 5) d_M_twos_391 (by decide) ?_
    refine rz_ishr d_M_twos_392 ?_
    refine rz_iconst (v := 4) d_M_twos_393 (by decide) ?_
    refine rz_callVv (t := [.int 4, .int (a1 >>> ((5 : Int32) &&& 31))]) d_M_twos_394 w_12_707 rfl rfl rfl (w.2.2.2.2.2.2.2.1 b17) (fun Sq18 q18 => ?_)
    refine rz_iconst (v := 1) d_M_twos_397 (by decide) ?_
    exact rz_ireti d_M_twos_398 rfl (by decide) q18
  by_cases b19 : a1 = 54
  · refine rz_lsj (v := 54) (tgt := 379) d_M_twos_1 b19 rfl ?_
    refine rz_pure (pc' := 380) d_M_twos_379 rfl ?_
    refine rz_pure (pc' := 381) d_M_twos_380 rfl ?_
    refine rz_iconst (v := 5) d_M_twos_381 (by decide) ?_
    refine rz_ishr d_M_twos_382 ?_
    refine rz_iconst (v := 2) d_M_twos_383 (by decide) ?_
    refine rz_callVv (t := [.int 2, .int (a1 >>> ((5 : Int32) &&& 31))]) d_M_twos_384 w_12_707 rfl rfl rfl (w.2.2.2.2.2.2.2.2.1 b19) (fun Sq20 q20 => ?_)
    refine rz_iconst (v := 1) d_M_twos_387 (by decide) ?_
    exact rz_ireti d_M_twos_388 rfl (by decide) q20
  by_cases b21 : a1 = 62
  · refine rz_lsj (v := 62) (tgt := 399) d_M_twos_1 b21 rfl ?_
    refine rz_pure (pc' := 400) d_M_twos_399 rfl ?_
    refine rz_pure (pc' := 401) d_M_twos_400 rfl ?_
    refine rz_iconst (v := 5) d_M_twos_401 (by decide) ?_
    refine rz_ishr d_M_twos_402 ?_
    refine rz_iconst (v := 5) d_M_twos_403 (by decide) ?_
    refine rz_callVv (t := [.int 5, .int (a1 >>> ((5 : Int32) &&& 31))]) d_M_twos_404 w_12_707 rfl rfl rfl (w.2.2.2.2.2.2.2.2.2.1 b21) (fun Sq22 q22 => ?_)
    refine rz_iconst (v := 1) d_M_twos_407 (by decide) ?_
    exact rz_ireti d_M_twos_408 rfl (by decide) q22
  by_cases b23 : a1 = 70
  · refine rz_lsj (v := 70) (tgt := 369) d_M_twos_1 b23 rfl ?_
    refine rz_pure (pc' := 370) d_M_twos_369 rfl ?_
    refine rz_pure (pc' := 371) d_M_twos_370 rfl ?_
    refine rz_iconst (v := 5) d_M_twos_371 (by decide) ?_
    refine rz_ishr d_M_twos_372 ?_
    refine rz_iconst (v := 1) d_M_twos_373 (by decide) ?_
    refine rz_callVv (t := [.int 1, .int (a1 >>> ((5 : Int32) &&& 31))]) d_M_twos_374 w_12_707 rfl rfl rfl (w.2.2.2.2.2.2.2.2.2.2.1 b23) (fun Sq24 q24 => ?_)
    refine rz_iconst (v := 1) d_M_twos_377 (by decide) ?_
    exact rz_ireti d_M_twos_378 rfl (by decide) q24
  by_cases b25 : a1 = 74
  · refine rz_lsj (v := 74) (tgt := 348) d_M_twos_1 b25 rfl ?_
    refine rz_pure (pc' := 349) d_M_twos_348 rfl ?_
    refine rz_pure (pc' := 350) d_M_twos_349 rfl ?_
    refine rz_pure (pc' := 351) d_M_twos_350 rfl ?_
    refine rz_iconst (v := 5) d_M_twos_351 (by decide) ?_
    refine rz_ishr d_M_twos_352 ?_
    refine rz_pure (pc' := 354) d_M_twos_353 rfl ?_
    refine rz_getiv (v := S.2 116 75) d_M_twos_354 f_12_626 rfl rfl rfl ?_
    refine rz_callVi (t := [.int (S.2 116 75), .int (a1 >>> ((5 : Int32) &&& 31))]) d_M_twos_357 w_12_693 rfl rfl rfl (w.2.2.2.2.2.2.2.2.2.2.2.1 b25) (fun xq26 Sq26 q26 => ?_)
    refine rz_puti d_M_twos_360 f_12_626 rfl rfl rfl ?_
    refine rz_pure (pc' := 364) d_M_twos_363 rfl ?_
    refine rz_iconst (v := 2) d_M_twos_364 (by decide) ?_
    refine rz_callVi (t := [.int 2]) d_M_twos_365 w_12_704 rfl rfl rfl q26 (fun xq27 Sq27 q27 => ?_)
    exact rz_ireti d_M_twos_368 rfl (rz_bnok q27.1) q27.2
  by_cases b28 : a1 = 78
  · refine rz_lsj (v := 78) (tgt := 389) d_M_twos_1 b28 rfl ?_
    refine rz_pure (pc' := 390) d_M_twos_389 rfl ?_
    refine rz_pure (pc' := 391) d_M_twos_390 rfl ?_
    refine rz_iconst (v := 5) d_M_twos_391 (by decide) ?_
    refine rz_ishr d_M_twos_392 ?_
    refine rz_iconst (v := 4) d_M_twos_393 (by decide) ?_
    refine rz_callVv (t := [.int 4, .int (a1 >>> ((5 : Int32) &&& 31))]) d_M_twos_394 w_12_707 rfl rfl rfl (w.2.2.2.2.2.2.2.2.2.2.2.2.1 b28) (fun Sq29 q29 => ?_)
    refine rz_iconst (v := 1) d_M_twos_397 (by decide) ?_
    exact rz_ireti d_M_twos_398 rfl (by decide) q29
  by_cases b30 : a1 = 86
  · refine rz_lsj (v := 86) (tgt := 379) d_M_twos_1 b30 rfl ?_
    refine rz_pure (pc' := 380) d_M_twos_379 rfl ?_
    refine rz_pure (pc' := 381) d_M_twos_380 rfl ?_
    refine rz_iconst (v := 5) d_M_twos_381 (by decide) ?_
    refine rz_ishr d_M_twos_382 ?_
    refine rz_iconst (v := 2) d_M_twos_383 (by decide) ?_
    refine rz_callVv (t := [.int 2, .int (a1 >>> ((5 : Int32) &&& 31))]) d_M_twos_384 w_12_707 rfl rfl rfl (w.2.2.2.2.2.2.2.2.2.2.2.2.2.1 b30) (fun Sq31 q31 => ?_)
    refine rz_iconst (v := 1) d_M_twos_387 (by decide) ?_
    exact rz_ireti d_M_twos_388 rfl (by decide) q31
  by_cases b32 : a1 = 94
  · refine rz_lsj (v := 94) (tgt := 399) d_M_twos_1 b32 rfl ?_
    refine rz_pure (pc' := 400) d_M_twos_399 rfl ?_
    refine rz_pure (pc' := 401) d_M_twos_400 rfl ?_
    refine rz_iconst (v := 5) d_M_twos_401 (by decide) ?_
    refine rz_ishr d_M_twos_402 ?_
    refine rz_iconst (v := 5) d_M_twos_403 (by decide) ?_
    refine rz_callVv (t := [.int 5, .int (a1 >>> ((5 : Int32) &&& 31))]) d_M_twos_404 w_12_707 rfl rfl rfl (w.2.2.2.2.2.2.2.2.2.2.2.2.2.2.1 b32) (fun Sq33 q33 => ?_)
    refine rz_iconst (v := 1) d_M_twos_407 (by decide) ?_
    exact rz_ireti d_M_twos_408 rfl (by decide) q33
  by_cases b34 : a1 = 102
  · refine rz_lsj (v := 102) (tgt := 369) d_M_twos_1 b34 rfl ?_
    refine rz_pure (pc' := 370) d_M_twos_369 rfl ?_
    refine rz_pure (pc' := 371) d_M_twos_370 rfl ?_
    refine rz_iconst (v := 5) d_M_twos_371 (by decide) ?_
    refine rz_ishr d_M_twos_372 ?_
    refine rz_iconst (v := 1) d_M_twos_373 (by decide) ?_
    refine rz_callVv (t := [.int 1, .int (a1 >>> ((5 : Int32) &&& 31))]) d_M_twos_374 w_12_707 rfl rfl rfl (w.2.2.2.2.2.2.2.2.2.2.2.2.2.2.2.1 b34) (fun Sq35 q35 => ?_)
    refine rz_iconst (v := 1) d_M_twos_377 (by decide) ?_
    exact rz_ireti d_M_twos_378 rfl (by decide) q35
  by_cases b36 : a1 = 106
  · refine rz_lsj (v := 106) (tgt := 348) d_M_twos_1 b36 rfl ?_
    refine rz_pure (pc' := 349) d_M_twos_348 rfl ?_
    refine rz_pure (pc' := 350) d_M_twos_349 rfl ?_
    refine rz_pure (pc' := 351) d_M_twos_350 rfl ?_
    refine rz_iconst (v := 5) d_M_twos_351 (by decide) ?_
    refine rz_ishr d_M_twos_352 ?_
    refine rz_pure (pc' := 354) d_M_twos_353 rfl ?_
    refine rz_getiv (v := S.2 116 75) d_M_twos_354 f_12_626 rfl rfl rfl ?_
    refine rz_callVi (t := [.int (S.2 116 75), .int (a1 >>> ((5 : Int32) &&& 31))]) d_M_twos_357 w_12_693 rfl rfl rfl (w.2.2.2.2.2.2.2.2.2.2.2.2.2.2.2.2.1 b36) (fun xq37 Sq37 q37 => ?_)
    refine rz_puti d_M_twos_360 f_12_626 rfl rfl rfl ?_
    refine rz_pure (pc' := 364) d_M_twos_363 rfl ?_
    refine rz_iconst (v := 2) d_M_twos_364 (by decide) ?_
    refine rz_callVi (t := [.int 2]) d_M_twos_365 w_12_704 rfl rfl rfl q37 (fun xq38 Sq38 q38 => ?_)
    exact rz_ireti d_M_twos_368 rfl (rz_bnok q38.1) q38.2
  by_cases b39 : a1 = 110
  · refine rz_lsj (v := 110) (tgt := 389) d_M_twos_1 b39 rfl ?_
    refine rz_pure (pc' := 390) d_M_twos_389 rfl ?_
    refine rz_pure (pc' := 391) d_M_twos_390 rfl ?_
    refine rz_iconst (v := 5) d_M_twos_391 (by decide) ?_
    refine rz_ishr d_M_twos_392 ?_
    refine rz_iconst (v := 4) d_M_twos_393 (by decide) ?_
    refine rz_callVv (t := [.int 4, .int (a1 >>> ((5 : Int32) &&& 31))]) d_M_twos_394 w_12_707 rfl rfl rfl (w.2.2.2.2.2.2.2.2.2.2.2.2.2.2.2.2.2.1 b39) (fun Sq40 q40 => ?_)
    refine rz_iconst (v := 1) d_M_twos_397 (by decide) ?_
    exact rz_ireti d_M_twos_398 rfl (by decide) q40
  by_cases b41 : a1 = 118
  · refine rz_lsj (v := 118) (tgt := 379) d_M_twos_1 b41 rfl ?_
    refine rz_pure (pc' := 380) d_M_twos_379 rfl ?_
    refine rz_pure (pc' := 381) d_M_twos_380 rfl ?_
    refine rz_iconst (v := 5) d_M_twos_381 (by decide) ?_
    refine rz_ishr d_M_twos_382 ?_
    refine rz_iconst (v := 2) d_M_twos_383 (by decide) ?_
    refine rz_callVv (t := [.int 2, .int (a1 >>> ((5 : Int32) &&& 31))]) d_M_twos_384 w_12_707 rfl rfl rfl (w.2.2.2.2.2.2.2.2.2.2.2.2.2.2.2.2.2.2.1 b41) (fun Sq42 q42 => ?_)
    refine rz_iconst (v := 1) d_M_twos_387 (by decide) ?_
    exact rz_ireti d_M_twos_388 rfl (by decide) q42
  by_cases b43 : a1 = 126
  · refine rz_lsj (v := 126) (tgt := 399) d_M_twos_1 b43 rfl ?_
    refine rz_pure (pc' := 400) d_M_twos_399 rfl ?_
    refine rz_pure (pc' := 401) d_M_twos_400 rfl ?_
    refine rz_iconst (v := 5) d_M_twos_401 (by decide) ?_
    refine rz_ishr d_M_twos_402 ?_
    refine rz_iconst (v := 5) d_M_twos_403 (by decide) ?_
    refine rz_callVv (t := [.int 5, .int (a1 >>> ((5 : Int32) &&& 31))]) d_M_twos_404 w_12_707 rfl rfl rfl (w.2.2.2.2.2.2.2.2.2.2.2.2.2.2.2.2.2.2.2.1 b43) (fun Sq44 q44 => ?_)
    refine rz_iconst (v := 1) d_M_twos_407 (by decide) ?_
    exact rz_ireti d_M_twos_408 rfl (by decide) q44
  by_cases b45 : a1 = 134
  · refine rz_lsj (v := 134) (tgt := 409) d_M_twos_1 b45 rfl ?_
    refine rz_pure (pc' := 410) d_M_twos_409 rfl ?_
    refine rz_pure (pc' := 411) d_M_twos_410 rfl ?_
    refine rz_getiv (v := S.2 116 76) d_M_twos_411 f_12_629 rfl rfl rfl ?_
    refine rz_iconst (v := 1) d_M_twos_414 (by decide) ?_
    refine rz_callVi (t := [.int 1, .int (S.2 116 76)]) d_M_twos_415 w_12_710 rfl rfl rfl (w.2.2.2.2.2.2.2.2.2.2.2.2.2.2.2.2.2.2.2.2.1 b45) (fun xq46 Sq46 q46 => ?_)
    exact rz_ireti d_M_twos_418 rfl (rz_bnok q46.1) q46.2
  by_cases b47 : a1 = 138
  · refine rz_lsj (v := 138) (tgt := 475) d_M_twos_1 b47 rfl ?_
    refine rz_pure (pc' := 476) d_M_twos_475 rfl ?_
    refine rz_pure (pc' := 477) d_M_twos_476 rfl ?_
    refine rz_pure (pc' := 478) d_M_twos_477 rfl ?_
    refine rz_getiv (v := S.2 116 76) d_M_twos_478 f_12_629 rfl rfl rfl ?_
    refine rz_callVi (t := [.int (S.2 116 76)]) d_M_twos_481 w_12_669 rfl rfl rfl (w.2.2.2.2.2.2.2.2.2.2.2.2.2.2.2.2.2.2.2.2.2.1 b47) (fun xq48 Sq48 q48 => ?_)
    refine rz_puti d_M_twos_484 f_12_626 rfl rfl rfl ?_
    refine rz_pure (pc' := 488) d_M_twos_487 rfl ?_
    refine rz_iconst (v := 2) d_M_twos_488 (by decide) ?_
    refine rz_callVi (t := [.int 2]) d_M_twos_489 w_12_704 rfl rfl rfl q48 (fun xq49 Sq49 q49 => ?_)
    exact rz_ireti d_M_twos_492 rfl (rz_bnok q49.1) q49.2
  by_cases b50 : a1 = 142
  · refine rz_lsj (v := 142) (tgt := 429) d_M_twos_1 b50 rfl ?_
    refine rz_pure (pc' := 430) d_M_twos_429 rfl ?_
    refine rz_pure (pc' := 431) d_M_twos_430 rfl ?_
    refine rz_getiv (v := S.2 116 76) d_M_twos_431 f_12_629 rfl rfl rfl ?_
    refine rz_iconst (v := 4) d_M_twos_434 (by decide) ?_
    refine rz_callVi (t := [.int 4, .int (S.2 116 76)]) d_M_twos_435 w_12_710 rfl rfl rfl (w.2.2.2.2.2.2.2.2.2.2.2.2.2.2.2.2.2.2.2.2.2.2.1 b50) (fun xq51 Sq51 q51 => ?_)
    exact rz_ireti d_M_twos_438 rfl (rz_bnok q51.1) q51.2
  by_cases b52 : a1 = 150
  · refine rz_lsj (v := 150) (tgt := 419) d_M_twos_1 b52 rfl ?_
    refine rz_pure (pc' := 420) d_M_twos_419 rfl ?_
    refine rz_pure (pc' := 421) d_M_twos_420 rfl ?_
    refine rz_getiv (v := S.2 116 76) d_M_twos_421 f_12_629 rfl rfl rfl ?_
    refine rz_iconst (v := 3) d_M_twos_424 (by decide) ?_
    refine rz_callVi (t := [.int 3, .int (S.2 116 76)]) d_M_twos_425 w_12_710 rfl rfl rfl (w.2.2.2.2.2.2.2.2.2.2.2.2.2.2.2.2.2.2.2.2.2.2.2.1 b52) (fun xq53 Sq53 q53 => ?_)
    exact rz_ireti d_M_twos_428 rfl (rz_bnok q53.1) q53.2
  by_cases b54 : a1 = 154
  · refine rz_lsj (v := 154) (tgt := 493) d_M_twos_1 b54 rfl ?_
    refine rz_pure (pc' := 494) d_M_twos_493 rfl ?_
    refine rz_pure (pc' := 495) d_M_twos_494 rfl ?_
    refine rz_getiv (v := S.2 116 76) d_M_twos_495 f_12_629 rfl rfl rfl ?_
    refine rz_puti d_M_twos_498 f_12_635 rfl rfl rfl ?_
    refine rz_pure (pc' := 502) d_M_twos_501 rfl ?_
    refine rz_iconst (v := 2) d_M_twos_502 (by decide) ?_
    refine rz_callVi (t := [.int 2]) d_M_twos_503 w_12_704 rfl rfl rfl (w.2.2.2.2.2.2.2.2.2.2.2.2.2.2.2.2.2.2.2.2.2.2.2.2.1 b54) (fun xq55 Sq55 q55 => ?_)
    exact rz_ireti d_M_twos_506 rfl (rz_bnok q55.1) q55.2
  by_cases b56 : a1 = 162
  · refine rz_lsj (v := 162) (tgt := 439) d_M_twos_1 b56 rfl ?_
    refine rz_pure (pc' := 440) d_M_twos_439 rfl ?_
    refine rz_iconst (v := 0) d_M_twos_440 (by decide) ?_
    refine rz_iconst (v := 0) d_M_twos_441 (by decide) ?_
    refine rz_callVi (t := [.int 0, .int 0]) d_M_twos_442 w_12_713 rfl rfl rfl (w.2.2.2.2.2.2.2.2.2.2.2.2.2.2.2.2.2.2.2.2.2.2.2.2.2.1 b56) (fun xq57 Sq57 q57 => ?_)
    exact rz_ireti d_M_twos_445 rfl (rz_bnok q57.1) q57.2
  by_cases b58 : a1 = 166
  · refine rz_lsj (v := 166) (tgt := 446) d_M_twos_1 b58 rfl ?_
    refine rz_pure (pc' := 447) d_M_twos_446 rfl ?_
    refine rz_iconst (v := 0) d_M_twos_447 (by decide) ?_
    refine rz_iconst (v := 1) d_M_twos_448 (by decide) ?_
    refine rz_callVi (t := [.int 1, .int 0]) d_M_twos_449 w_12_713 rfl rfl rfl (w.2.2.2.2.2.2.2.2.2.2.2.2.2.2.2.2.2.2.2.2.2.2.2.2.2.2.1 b58) (fun xq59 Sq59 q59 => ?_)
    exact rz_ireti d_M_twos_452 rfl (rz_bnok q59.1) q59.2
  by_cases b60 : a1 = 170
  · refine rz_lsj (v := 170) (tgt := 507) d_M_twos_1 b60 rfl ?_
    refine rz_pure (pc' := 508) d_M_twos_507 rfl ?_
    refine rz_pure (pc' := 509) d_M_twos_508 rfl ?_
    refine rz_pure (pc' := 510) d_M_twos_509 rfl ?_
    refine rz_getiv (v := S.2 116 75) d_M_twos_510 f_12_626 rfl rfl rfl ?_
    refine rz_callVi (t := [.int (S.2 116 75)]) d_M_twos_513 w_12_669 rfl rfl rfl (w.2.2.2.2.2.2.2.2.2.2.2.2.2.2.2.2.2.2.2.2.2.2.2.2.2.2.2.1 b60) (fun xq61 Sq61 q61 => ?_)
    refine rz_puti d_M_twos_516 f_12_629 rfl rfl rfl ?_
    refine rz_pure (pc' := 520) d_M_twos_519 rfl ?_
    refine rz_iconst (v := 2) d_M_twos_520 (by decide) ?_
    refine rz_callVi (t := [.int 2]) d_M_twos_521 w_12_704 rfl rfl rfl q61 (fun xq62 Sq62 q62 => ?_)
    exact rz_ireti d_M_twos_524 rfl (rz_bnok q62.1) q62.2
  by_cases b63 : a1 = 174
  · refine rz_lsj (v := 174) (tgt := 460) d_M_twos_1 b63 rfl ?_
    refine rz_pure (pc' := 461) d_M_twos_460 rfl ?_
    refine rz_iconst (v := 0) d_M_twos_461 (by decide) ?_
    refine rz_iconst (v := 4) d_M_twos_462 (by decide) ?_
    refine rz_callVi (t := [.int 4, .int 0]) d_M_twos_463 w_12_713 rfl rfl rfl (w.2.2.2.2.2.2.2.2.2.2.2.2.2.2.2.2.2.2.2.2.2.2.2.2.2.2.2.2.1 b63) (fun xq64 Sq64 q64 => ?_)
    exact rz_ireti d_M_twos_466 rfl (rz_bnok q64.1) q64.2
  by_cases b65 : a1 = 182
  · refine rz_lsj (v := 182) (tgt := 453) d_M_twos_1 b65 rfl ?_
    refine rz_pure (pc' := 454) d_M_twos_453 rfl ?_
    refine rz_iconst (v := 0) d_M_twos_454 (by decide) ?_
    refine rz_iconst (v := 3) d_M_twos_455 (by decide) ?_
    refine rz_callVi (t := [.int 3, .int 0]) d_M_twos_456 w_12_713 rfl rfl rfl (w.2.2.2.2.2.2.2.2.2.2.2.2.2.2.2.2.2.2.2.2.2.2.2.2.2.2.2.2.2.1 b65) (fun xq66 Sq66 q66 => ?_)
    exact rz_ireti d_M_twos_459 rfl (rz_bnok q66.1) q66.2
  by_cases b67 : a1 = 186
  · refine rz_lsj (v := 186) (tgt := 525) d_M_twos_1 b67 rfl ?_
    refine rz_pure (pc' := 526) d_M_twos_525 rfl ?_
    refine rz_pure (pc' := 527) d_M_twos_526 rfl ?_
    refine rz_pure (pc' := 528) d_M_twos_527 rfl ?_
    refine rz_getiv (v := S.2 116 78) d_M_twos_528 f_12_635 rfl rfl rfl ?_
    refine rz_callVi (t := [.int (S.2 116 78)]) d_M_twos_531 w_12_669 rfl rfl rfl (w.2.2.2.2.2.2.2.2.2.2.2.2.2.2.2.2.2.2.2.2.2.2.2.2.2.2.2.2.2.2.1 b67) (fun xq68 Sq68 q68 => ?_)
    refine rz_puti d_M_twos_534 f_12_629 rfl rfl rfl ?_
    refine rz_pure (pc' := 538) d_M_twos_537 rfl ?_
    refine rz_iconst (v := 2) d_M_twos_538 (by decide) ?_
    refine rz_callVi (t := [.int 2]) d_M_twos_539 w_12_704 rfl rfl rfl q68 (fun xq69 Sq69 q69 => ?_)
    exact rz_ireti d_M_twos_542 rfl (rz_bnok q69.1) q69.2
  by_cases b70 : a1 = 190
  · refine rz_lsj (v := 190) (tgt := 467) d_M_twos_1 b70 rfl ?_
    refine rz_pure (pc' := 468) d_M_twos_467 rfl ?_
    refine rz_iconst (v := 0) d_M_twos_468 (by decide) ?_
    refine rz_bipush (v := 6) d_M_twos_469 (by decide) ?_
    refine rz_callVi (t := [.int 6, .int 0]) d_M_twos_471 w_12_713 rfl rfl rfl (w.2.2.2.2.2.2.2.2.2.2.2.2.2.2.2.2.2.2.2.2.2.2.2.2.2.2.2.2.2.2.2.1 b70) (fun xq71 Sq71 q71 => ?_)
    exact rz_ireti d_M_twos_474 rfl (rz_bnok q71.1) q71.2
  by_cases b72 : a1 = 198
  · refine rz_lsj (v := 198) (tgt := 369) d_M_twos_1 b72 rfl ?_
    refine rz_pure (pc' := 370) d_M_twos_369 rfl ?_
    refine rz_pure (pc' := 371) d_M_twos_370 rfl ?_
    refine rz_iconst (v := 5) d_M_twos_371 (by decide) ?_
    refine rz_ishr d_M_twos_372 ?_
    refine rz_iconst (v := 1) d_M_twos_373 (by decide) ?_
    refine rz_callVv (t := [.int 1, .int (a1 >>> ((5 : Int32) &&& 31))]) d_M_twos_374 w_12_707 rfl rfl rfl (w.2.2.2.2.2.2.2.2.2.2.2.2.2.2.2.2.2.2.2.2.2.2.2.2.2.2.2.2.2.2.2.2.1 b72) (fun Sq73 q73 => ?_)
    refine rz_iconst (v := 1) d_M_twos_377 (by decide) ?_
    exact rz_ireti d_M_twos_378 rfl (by decide) q73
  by_cases b74 : a1 = 202
  · refine rz_lsj (v := 202) (tgt := 543) d_M_twos_1 b74 rfl ?_
    refine rz_pure (pc' := 544) d_M_twos_543 rfl ?_
    refine rz_pure (pc' := 545) d_M_twos_544 rfl ?_
    refine rz_pure (pc' := 546) d_M_twos_545 rfl ?_
    refine rz_getiv (v := S.2 116 76) d_M_twos_546 f_12_629 rfl rfl rfl ?_
    refine rz_iconst (v := 1) d_M_twos_549 (by decide) ?_
    refine rz_isub d_M_twos_550 ?_
    refine rz_callVi (t := [.int ((S.2 116 76) - 1)]) d_M_twos_551 w_12_669 rfl rfl rfl (w.2.2.2.2.2.2.2.2.2.2.2.2.2.2.2.2.2.2.2.2.2.2.2.2.2.2.2.2.2.2.2.2.2.1 b74) (fun xq75 Sq75 q75 => ?_)
    refine rz_puti d_M_twos_554 f_12_629 rfl rfl rfl ?_
    refine rz_pure (pc' := 558) d_M_twos_557 rfl ?_
    refine rz_iconst (v := 2) d_M_twos_558 (by decide) ?_
    refine rz_callVi (t := [.int 2]) d_M_twos_559 w_12_704 rfl rfl rfl q75 (fun xq76 Sq76 q76 => ?_)
    exact rz_ireti d_M_twos_562 rfl (rz_bnok q76.1) q76.2
  by_cases b77 : a1 = 206
  · refine rz_lsj (v := 206) (tgt := 389) d_M_twos_1 b77 rfl ?_
    refine rz_pure (pc' := 390) d_M_twos_389 rfl ?_
    refine rz_pure (pc' := 391) d_M_twos_390 rfl ?_
    refine rz_iconst (v := 5) d_M_twos_391 (by decide) ?_
    refine rz_ishr d_M_twos_392 ?_
    refine rz_iconst (v := 4) d_M_twos_393 (by decide) ?_
    refine rz_callVv (t := [.int 4, .int (a1 >>> ((5 : Int32) &&& 31))]) d_M_twos_394 w_12_707 rfl rfl rfl (w.2.2.2.2.2.2.2.2.2.2.2.2.2.2.2.2.2.2.2.2.2.2.2.2.2.2.2.2.2.2.2.2.2.2.1 b77) (fun Sq78 q78 => ?_)
    refine rz_iconst (v := 1) d_M_twos_397 (by decide) ?_
    exact rz_ireti d_M_twos_398 rfl (by decide) q78
  by_cases b79 : a1 = 214
  · refine rz_lsj (v := 214) (tgt := 379) d_M_twos_1 b79 rfl ?_
    refine rz_pure (pc' := 380) d_M_twos_379 rfl ?_
    refine rz_pure (pc' := 381) d_M_twos_380 rfl ?_
    refine rz_iconst (v := 5) d_M_twos_381 (by decide) ?_
    refine rz_ishr d_M_twos_382 ?_
    refine rz_iconst (v := 2) d_M_twos_383 (by decide) ?_
    refine rz_callVv (t := [.int 2, .int (a1 >>> ((5 : Int32) &&& 31))]) d_M_twos_384 w_12_707 rfl rfl rfl (w.2.2.2.2.2.2.2.2.2.2.2.2.2.2.2.2.2.2.2.2.2.2.2.2.2.2.2.2.2.2.2.2.2.2.2.1 b79) (fun Sq80 q80 => ?_)
    refine rz_iconst (v := 1) d_M_twos_387 (by decide) ?_
    exact rz_ireti d_M_twos_388 rfl (by decide) q80
  by_cases b81 : a1 = 222
  · refine rz_lsj (v := 222) (tgt := 399) d_M_twos_1 b81 rfl ?_
    refine rz_pure (pc' := 400) d_M_twos_399 rfl ?_
    refine rz_pure (pc' := 401) d_M_twos_400 rfl ?_
    refine rz_iconst (v := 5) d_M_twos_401 (by decide) ?_
    refine rz_ishr d_M_twos_402 ?_
    refine rz_iconst (v := 5) d_M_twos_403 (by decide) ?_
    refine rz_callVv (t := [.int 5, .int (a1 >>> ((5 : Int32) &&& 31))]) d_M_twos_404 w_12_707 rfl rfl rfl (w.2.2.2.2.2.2.2.2.2.2.2.2.2.2.2.2.2.2.2.2.2.2.2.2.2.2.2.2.2.2.2.2.2.2.2.2.1 b81) (fun Sq82 q82 => ?_)
    refine rz_iconst (v := 1) d_M_twos_407 (by decide) ?_
    exact rz_ireti d_M_twos_408 rfl (by decide) q82
  by_cases b83 : a1 = 230
  · refine rz_lsj (v := 230) (tgt := 369) d_M_twos_1 b83 rfl ?_
    refine rz_pure (pc' := 370) d_M_twos_369 rfl ?_
    refine rz_pure (pc' := 371) d_M_twos_370 rfl ?_
    refine rz_iconst (v := 5) d_M_twos_371 (by decide) ?_
    refine rz_ishr d_M_twos_372 ?_
    refine rz_iconst (v := 1) d_M_twos_373 (by decide) ?_
    refine rz_callVv (t := [.int 1, .int (a1 >>> ((5 : Int32) &&& 31))]) d_M_twos_374 w_12_707 rfl rfl rfl (w.2.2.2.2.2.2.2.2.2.2.2.2.2.2.2.2.2.2.2.2.2.2.2.2.2.2.2.2.2.2.2.2.2.2.2.2.2.1 b83) (fun Sq84 q84 => ?_)
    refine rz_iconst (v := 1) d_M_twos_377 (by decide) ?_
    exact rz_ireti d_M_twos_378 rfl (by decide) q84
  by_cases b85 : a1 = 234
  · refine rz_lsj (v := 234) (tgt := 563) d_M_twos_1 b85 rfl ?_
    refine rz_pure (pc' := 564) d_M_twos_563 rfl ?_
    refine rz_iconst (v := 2) d_M_twos_564 (by decide) ?_
    refine rz_callVi (t := [.int 2]) d_M_twos_565 w_12_704 rfl rfl rfl (w.2.2.2.2.2.2.2.2.2.2.2.2.2.2.2.2.2.2.2.2.2.2.2.2.2.2.2.2.2.2.2.2.2.2.2.2.2.2.1 b85) (fun xq86 Sq86 q86 => ?_)
    exact rz_ireti d_M_twos_568 rfl (rz_bnok q86.1) q86.2
  by_cases b87 : a1 = 238
  · refine rz_lsj (v := 238) (tgt := 389) d_M_twos_1 b87 rfl ?_
    refine rz_pure (pc' := 390) d_M_twos_389 rfl ?_
    refine rz_pure (pc' := 391) d_M_twos_390 rfl ?_
    refine rz_iconst (v := 5) d_M_twos_391 (by decide) ?_
    refine rz_ishr d_M_twos_392 ?_
    refine rz_iconst (v := 4) d_M_twos_393 (by decide) ?_
    refine rz_callVv (t := [.int 4, .int (a1 >>> ((5 : Int32) &&& 31))]) d_M_twos_394 w_12_707 rfl rfl rfl (w.2.2.2.2.2.2.2.2.2.2.2.2.2.2.2.2.2.2.2.2.2.2.2.2.2.2.2.2.2.2.2.2.2.2.2.2.2.2.2.1 b87) (fun Sq88 q88 => ?_)
    refine rz_iconst (v := 1) d_M_twos_397 (by decide) ?_
    exact rz_ireti d_M_twos_398 rfl (by decide) q88
  by_cases b89 : a1 = 246
  · refine rz_lsj (v := 246) (tgt := 379) d_M_twos_1 b89 rfl ?_
    refine rz_pure (pc' := 380) d_M_twos_379 rfl ?_
    refine rz_pure (pc' := 381) d_M_twos_380 rfl ?_
    refine rz_iconst (v := 5) d_M_twos_381 (by decide) ?_
    refine rz_ishr d_M_twos_382 ?_
    refine rz_iconst (v := 2) d_M_twos_383 (by decide) ?_
    refine rz_callVv (t := [.int 2, .int (a1 >>> ((5 : Int32) &&& 31))]) d_M_twos_384 w_12_707 rfl rfl rfl (w.2.2.2.2.2.2.2.2.2.2.2.2.2.2.2.2.2.2.2.2.2.2.2.2.2.2.2.2.2.2.2.2.2.2.2.2.2.2.2.2.1 b89) (fun Sq90 q90 => ?_)
    refine rz_iconst (v := 1) d_M_twos_387 (by decide) ?_
    exact rz_ireti d_M_twos_388 rfl (by decide) q90
  by_cases b91 : a1 = 254
  · refine rz_lsj (v := 254) (tgt := 399) d_M_twos_1 b91 rfl ?_
    refine rz_pure (pc' := 400) d_M_twos_399 rfl ?_
    refine rz_pure (pc' := 401) d_M_twos_400 rfl ?_
    refine rz_iconst (v := 5) d_M_twos_401 (by decide) ?_
    refine rz_ishr d_M_twos_402 ?_
    refine rz_iconst (v := 5) d_M_twos_403 (by decide) ?_
    refine rz_callVv (t := [.int 5, .int (a1 >>> ((5 : Int32) &&& 31))]) d_M_twos_404 w_12_707 rfl rfl rfl (w.2.2.2.2.2.2.2.2.2.2.2.2.2.2.2.2.2.2.2.2.2.2.2.2.2.2.2.2.2.2.2.2.2.2.2.2.2.2.2.2.2.1 b91) (fun Sq92 q92 => ?_)
    refine rz_iconst (v := 1) d_M_twos_407 (by decide) ?_
    exact rz_ireti d_M_twos_408 rfl (by decide) q92
  refine rz_lsd (tgt := 569) d_M_twos_1 rfl ⟨b1, b3, b6, b8, b10, b12, b14, b17, b19, b21, b23, b25, b28, b30, b32, b34, b36, b39, b41, b43, b45, b47, b50, b52, b54, b56, b58, b60, b63, b65, b67, b70, b72, b74, b77, b79, b81, b83, b85, b87, b89, b91, trivial⟩ rfl ?_
  refine rz_iconst (v := 0) d_M_twos_569 (by decide) ?_
  exact rz_ireti d_M_twos_570 rfl (by decide) (w.2.2.2.2.2.2.2.2.2.2.2.2.2.2.2.2.2.2.2.2.2.2.2.2.2.2.2.2.2.2.2.2.2.2.2.2.2.2.2.2.2.2 b1 b3 b6 b8 b10 b12 b14 b17 b19 b21 b23 b25 b28 b30 b32 b34 b36 b39 b41 b43 b45 b47 b50 b52 b54 b56 b58 b60 b63 b65 b67 b70 b72 b74 b77 b79 b81 b83 b85 b87 b89 b91)
theorem d_M_zeros_0 : decode (rm_code mM_zeros) 0 = .ok (.iload_n 1, 1) := by decide +kernel
theorem d_M_zeros_1 : decode (rm_code mM_zeros) 1 = .ok (.lookupswitch (852) #[((8), (777)), ((16), (331)), ((24), (457)), ((36), (544)), ((40), (794)), ((44), (550)), ((48), (352)), ((56), (469)), ((72), (820)), ((80), (365)), ((88), (481)), ((104), (834)), ((112), (385)), ((120), (493)), ((132), (556)), ((136), (681)), ((140), (576)), ((144), (397)), ((148), (566)), ((152), (741)), ((160), (586)), ((164), (593)), ((168), (759)), ((172), (607)), ((176), (416)), ((180), (600)), ((184), (505)), ((188), (614)), ((192), (621)), ((196), (631)), ((200), (701)), ((204), (641)), ((208), (427)), ((216), (518)), ((224), (651)), ((228), (661)), ((232), (721)), ((236), (671)), ((240), (446)), ((248), (531))], 331) := by decide +kernel
theorem d_M_zeros_332 : decode (rm_code mM_zeros) 332 = .ok (.aload_n 0, 1) := by decide +kernel
theorem d_M_zeros_333 : decode (rm_code mM_zeros) 333 = .ok (.aload_n 0, 1) := by decide +kernel
theorem d_M_zeros_334 : decode (rm_code mM_zeros) 334 = .ok (.sipush (128), 3) := by decide +kernel
theorem d_M_zeros_337 : decode (rm_code mM_zeros) 337 = .ok (.invokevirtual 666, 3) := by decide +kernel
theorem d_M_zeros_340 : decode (rm_code mM_zeros) 340 = .ok (.ifCond .ne (7), 3) := by decide +kernel
theorem d_M_zeros_343 : decode (rm_code mM_zeros) 343 = .ok (.iconst 1, 1) := by decide +kernel
theorem d_M_zeros_344 : decode (rm_code mM_zeros) 344 = .ok (.goto (4), 3) := by decide +kernel
theorem d_M_zeros_347 : decode (rm_code mM_zeros) 347 = .ok (.iconst 0, 1) := by decide +kernel
theorem d_M_zeros_348 : decode (rm_code mM_zeros) 348 = .ok (.invokevirtual 716, 3) := by decide +kernel
theorem d_M_zeros_351 : decode (rm_code mM_zeros) 351 = .ok (.iconst 1, 1) := by decide +kernel
theorem d_M_zeros_352 : decode (rm_code mM_zeros) 352 = .ok (.ireturn, 1) := by decide +kernel
theorem d_M_zeros_353 : decode (rm_code mM_zeros) 353 = .ok (.aload_n 0, 1) := by decide +kernel
theorem d_M_zeros_354 : decode (rm_code mM_zeros) 354 = .ok (.aload_n 0, 1) := by decide +kernel
theorem d_M_zeros_355 : decode (rm_code mM_zeros) 355 = .ok (.sipush (128), 3) := by decide +kernel
theorem d_M_zeros_358 : decode (rm_code mM_zeros) 358 = .ok (.invokevirtual 666, 3) := by decide +kernel
theorem d_M_zeros_361 : decode (rm_code mM_zeros) 361 = .ok (.invokevirtual 716, 3) := by decide +kernel
theorem d_M_zeros_364 : decode (rm_code mM_zeros) 364 = .ok (.iconst 1, 1) := by decide +kernel
theorem d_M_zeros_365 : decode (rm_code mM_zeros) 365 = .ok (.ireturn, 1) := by decide +kernel
theorem d_M_zeros_366 : decode (rm_code mM_zeros) 366 = .ok (.aload_n 0, 1) := by decide +kernel
theorem d_M_zeros_367 : decode (rm_code mM_zeros) 367 = .ok (.aload_n 0, 1) := by decide +kernel
theorem d_M_zeros_368 : decode (rm_code mM_zeros) 368 = .ok (.bipush (64), 2) := by decide +kernel
theorem d_M_zeros_370 : decode (rm_code mM_zeros) 370 = .ok (.invokevirtual 666, 3) := by decide +kernel
theorem d_M_zeros_373 : decode (rm_code mM_zeros) 373 = .ok (.ifCond .ne (7), 3) := by decide +kernel
theorem d_M_zeros_376 : decode (rm_code mM_zeros) 376 = .ok (.iconst 1, 1) := by decide +kernel
theorem d_M_zeros_377 : decode (rm_code mM_zeros) 377 = .ok (.goto (4), 3) := by decide +kernel
theorem d_M_zeros_380 : decode (rm_code mM_zeros) 380 = .ok (.iconst 0, 1) := by decide +kernel
theorem d_M_zeros_381 : decode (rm_code mM_zeros) 381 = .ok (.invokevirtual 716, 3) := by decide +kernel
theorem d_M_zeros_384 : decode (rm_code mM_zeros) 384 = .ok (.iconst 1, 1) := by decide +kernel
theorem d_M_zeros_385 : decode (rm_code mM_zeros) 385 = .ok (.ireturn, 1) := by decide +kernel
theorem d_M_zeros_386 : decode (rm_code mM_zeros) 386 = .ok (.aload_n 0, 1) := by decide +kernel
theorem d_M_zeros_387 : decode (rm_code mM_zeros) 387 = .ok (.aload_n 0, 1) := by decide +kernel
theorem d_M_zeros_388 : decode (rm_code mM_zeros) 388 = .ok (.bipush (64), 2) := by decide +kernel
theorem d_M_zeros_390 : decode (rm_code mM_zeros) 390 = .ok (.invokevirtual 666, 3) := by decide +kernel
theorem d_M_zeros_393 : decode (rm_code mM_zeros) 393 = .ok (.invokevirtual 716, 3) := by decide +kernel
theorem d_M_zeros_396 : decode (rm_code mM_zeros) 396 = .ok (.iconst 1, 1) := by decide +kernel
theorem d_M_zeros_397 : decode (rm_code mM_zeros) 397 = .ok (.ireturn, 1) := by decide +kernel
theorem d_M_zeros_398 : decode (rm_code mM_zeros) 398 = .ok (.aload_n 0, 1) := by decide +kernel
theorem d_M_zeros_399 : decode (rm_code mM_zeros) 399 = .ok (.aload_n 0, 1) := by decide +kernel
theorem d_M_zeros_400 : decode (rm_code mM_zeros) 400 = .ok (.iconst 1, 1) := by decide +kernel
theorem d_M_zeros_401 : decode (rm_code mM_zeros) 401 = .ok (.invokevirtual 666, 3) := by decide +kernel
theorem d_M_zeros_404 : decode (rm_code mM_zeros) 404 = .ok (.ifCond .ne (7), 3) := by decide +kernel
theorem d_M_zeros_407 : decode (rm_code mM_zeros) 407 = .ok (.iconst 1, 1) := by decide +kernel
theorem d_M_zeros_408 : decode (rm_code mM_zeros) 408 = .ok (.goto (4), 3) := by decide +kernel
theorem d_M_zeros_411 : decode (rm_code mM_zeros) 411 = .ok (.iconst 0, 1) := by decide +kernel
theorem d_M_zeros_412 : decode (rm_code mM_zeros) 412 = .ok (.invokevirtual 716, 3) := by decide +kernel
theorem d_M_zeros_415 : decode (rm_code mM_zeros) 415 = .ok (.iconst 1, 1) := by decide +kernel
theorem d_M_zeros_416 : decode (rm_code mM_zeros) 416 = .ok (.ireturn, 1) := by decide +kernel
theorem d_M_zeros_417 : decode (rm_code mM_zeros) 417 = .ok (.aload_n 0, 1) := by decide +kernel
theorem d_M_zeros_418 : decode (rm_code mM_zeros) 418 = .ok (.aload_n 0, 1) := by decide +kernel
theorem d_M_zeros_419 : decode (rm_code mM_zeros) 419 = .ok (.iconst 1, 1) := by decide +kernel
theorem d_M_zeros_420 : decode (rm_code mM_zeros) 420 = .ok (.invokevirtual 666, 3) := by decide +kernel
theorem d_M_zeros_423 : decode (rm_code mM_zeros) 423 = .ok (.invokevirtual 716, 3) := by decide +kernel
theorem d_M_zeros_426 : decode (rm_code mM_zeros) 426 = .ok (.iconst 1, 1) := by decide +kernel
theorem d_M_zeros_427 : decode (rm_code mM_zeros) 427 = .ok (.ireturn, 1) := by decide +kernel
theorem d_M_zeros_428 : decode (rm_code mM_zeros) 428 = .ok (.aload_n 0, 1) := by decide +kernel
theorem d_M_zeros_429 : decode (rm_code mM_zeros) 429 = .ok (.aload_n 0, 1) := by decide +kernel
theorem d_M_zeros_430 : decode (rm_code mM_zeros) 430 = .ok (.iconst 2, 1) := by decide +kernel
theorem d_M_zeros_431 : decode (rm_code mM_zeros) 431 = .ok (.invokevirtual 666, 3) := by decide +kernel
theorem d_M_zeros_434 : decode (rm_code mM_zeros) 434 = .ok (.ifCond .ne (7), 3) := by decide +kernel
theorem d_M_zeros_437 : decode (rm_code mM_zeros) 437 = .ok (.iconst 1, 1) := by decide +kernel
theorem d_M_zeros_438 : decode (rm_code mM_zeros) 438 = .ok (.goto (4), 3) := by decide +kernel
theorem d_M_zeros_441 : decode (rm_code mM_zeros) 441 = .ok (.iconst 0, 1) := by decide +kernel
theorem d_M_zeros_442 : decode (rm_code mM_zeros) 442 = .ok (.invokevirtual 716, 3) := by decide +kernel
theorem d_M_zeros_445 : decode (rm_code mM_zeros) 445 = .ok (.iconst 1, 1) := by decide +kernel
theorem d_M_zeros_446 : decode (rm_code mM_zeros) 446 = .ok (.ireturn, 1) := by decide +kernel
theorem d_M_zeros_447 : decode (rm_code mM_zeros) 447 = .ok (.aload_n 0, 1) := by decide +kernel
theorem d_M_zeros_448 : decode (rm_code mM_zeros) 448 = .ok (.aload_n 0, 1) := by decide +kernel
theorem d_M_zeros_449 : decode (rm_code mM_zeros) 449 = .ok (.iconst 2, 1) := by decide +kernel
theorem d_M_zeros_450 : decode (rm_code mM_zeros) 450 = .ok (.invokevirtual 666, 3) := by decide +kernel
theorem d_M_zeros_453 : decode (rm_code mM_zeros) 453 = .ok (.invokevirtual 716, 3) := by decide +kernel
theorem d_M_zeros_456 : decode (rm_code mM_zeros) 456 = .ok (.iconst 1, 1) := by decide +kernel
theorem d_M_zeros_457 : decode (rm_code mM_zeros) 457 = .ok (.ireturn, 1) := by decide +kernel
theorem d_M_zeros_458 : decode (rm_code mM_zeros) 458 = .ok (.aload_n 0, 1) := by decide +kernel
theorem d_M_zeros_459 : decode (rm_code mM_zeros) 459 = .ok (.iconst 1, 1) := by decide +kernel
theorem d_M_zeros_460 : decode (rm_code mM_zeros) 460 = .ok (.iconst 0, 1) := by decide +kernel
theorem d_M_zeros_461 : decode (rm_code mM_zeros) 461 = .ok (.invokevirtual 656, 3) := by decide +kernel
theorem d_M_zeros_464 : decode (rm_code mM_zeros) 464 = .ok (.aload_n 0, 1) := by decide +kernel
theorem d_M_zeros_465 : decode (rm_code mM_zeros) 465 = .ok (.iconst 2, 1) := by decide +kernel
theorem d_M_zeros_466 : decode (rm_code mM_zeros) 466 = .ok (.invokevirtual 704, 3) := by decide +kernel
theorem d_M_zeros_469 : decode (rm_code mM_zeros) 469 = .ok (.ireturn, 1) := by decide +kernel
theorem d_M_zeros_470 : decode (rm_code mM_zeros) 470 = .ok (.aload_n 0, 1) := by decide +kernel
theorem d_M_zeros_471 : decode (rm_code mM_zeros) 471 = .ok (.iconst 1, 1) := by decide +kernel
theorem d_M_zeros_472 : decode (rm_code mM_zeros) 472 = .ok (.iconst 1, 1) := by decide +kernel
theorem d_M_zeros_473 : decode (rm_code mM_zeros) 473 = .ok (.invokevirtual 656, 3) := by decide +kernel
theorem d_M_zeros_476 : decode (rm_code mM_zeros) 476 = .ok (.aload_n 0, 1) := by decide +kernel
theorem d_M_zeros_477 : decode (rm_code mM_zeros) 477 = .ok (.iconst 2, 1) := by decide +kernel
theorem d_M_zeros_478 : decode (rm_code mM_zeros) 478 = .ok (.invokevirtual 704, 3) := by decide +kernel
theorem d_M_zeros_481 : decode (rm_code mM_zeros) 481 = .ok (.ireturn, 1) := by decide +kernel
theorem d_M_zeros_482 : decode (rm_code mM_zeros) 482 = .ok (.aload_n 0, 1) := by decide +kernel
theorem d_M_zeros_483 : decode (rm_code mM_zeros) 483 = .ok (.iconst 4, 1) := by decide +kernel
theorem d_M_zeros_484 : decode (rm_code mM_zeros) 484 = .ok (.iconst 0, 1) := by decide +kernel
theorem d_M_zeros_485 : decode (rm_code mM_zeros) 485 = .ok (.invokevirtual 656, 3) := by decide +kernel
theorem d_M_zeros_488 : decode (rm_code mM_zeros) 488 = .ok (.aload_n 0, 1) := by decide +kernel
theorem d_M_zeros_489 : decode (rm_code mM_zeros) 489 = .ok (.iconst 2, 1) := by decide +kernel
theorem d_M_zeros_490 : decode (rm_code mM_zeros) 490 = .ok (.invokevirtual 704, 3) := by decide +kernel
theorem d_M_zeros_493 : decode (rm_code mM_zeros) 493 = .ok (.ireturn, 1) := by decide +kernel
theorem d_M_zeros_494 : decode (rm_code mM_zeros) 494 = .ok (.aload_n 0, 1) := by decide +kernel
theorem d_M_zeros_495 : decode (rm_code mM_zeros) 495 = .ok (.iconst 4, 1) := by decide +kernel
theorem d_M_zeros_496 : decode (rm_code mM_zeros) 496 = .ok (.iconst 1, 1) := by decide +kernel
theorem d_M_zeros_497 : decode (rm_code mM_zeros) 497 = .ok (.invokevirtual 656, 3) := by decide +kernel
theorem d_M_zeros_500 : decode (rm_code mM_zeros) 500 = .ok (.aload_n 0, 1) := by decide +kernel
theorem d_M_zeros_501 : decode (rm_code mM_zeros) 501 = .ok (.iconst 2, 1) := by decide +kernel
theorem d_M_zeros_502 : decode (rm_code mM_zeros) 502 = .ok (.invokevirtual 704, 3) := by decide +kernel
theorem d_M_zeros_505 : decode (rm_code mM_zeros) 505 = .ok (.ireturn, 1) := by decide +kernel
theorem d_M_zeros_506 : decode (rm_code mM_zeros) 506 = .ok (.aload_n 0, 1) := by decide +kernel
theorem d_M_zeros_507 : decode (rm_code mM_zeros) 507 = .ok (.bipush (64), 2) := by decide +kernel
theorem d_M_zeros_509 : decode (rm_code mM_zeros) 509 = .ok (.iconst 0, 1) := by decide +kernel
theorem d_M_zeros_510 : decode (rm_code mM_zeros) 510 = .ok (.invokevirtual 656, 3) := by decide +kernel
theorem d_M_zeros_513 : decode (rm_code mM_zeros) 513 = .ok (.aload_n 0, 1) := by decide +kernel
theorem d_M_zeros_514 : decode (rm_code mM_zeros) 514 = .ok (.iconst 2, 1) := by decide +kernel
theorem d_M_zeros_515 : decode (rm_code mM_zeros) 515 = .ok (.invokevirtual 704, 3) := by decide +kernel
theorem d_M_zeros_518 : decode (rm_code mM_zeros) 518 = .ok (.ireturn, 1) := by decide +kernel
theorem d_M_zeros_519 : decode (rm_code mM_zeros) 519 = .ok (.aload_n 0, 1) := by decide +kernel
theorem d_M_zeros_520 : decode (rm_code mM_zeros) 520 = .ok (.bipush (8), 2) := by decide +kernel
theorem d_M_zeros_522 : decode (rm_code mM_zeros) 522 = .ok (.iconst 0, 1) := by decide +kernel
theorem d_M_zeros_523 : decode (rm_code mM_zeros) 523 = .ok (.invokevirtual 656, 3) := by decide +kernel
theorem d_M_zeros_526 : decode (rm_code mM_zeros) 526 = .ok (.aload_n 0, 1) := by decide +kernel
theorem d_M_zeros_527 : decode (rm_code mM_zeros) 527 = .ok (.iconst 2, 1) := by decide +kernel
theorem d_M_zeros_528 : decode (rm_code mM_zeros) 528 = .ok (.invokevirtual 704, 3) := by decide +kernel
theorem d_M_zeros_531 : decode (rm_code mM_zeros) 531 = .ok (.ireturn, 1) := by decide +kernel
theorem d_M_zeros_532 : decode (rm_code mM_zeros) 532 = .ok (.aload_n 0, 1) := by decide +kernel
theorem d_M_zeros_533 : decode (rm_code mM_zeros) 533 = .ok (.bipush (8), 2) := by decide +kernel
theorem d_M_zeros_535 : decode (rm_code mM_zeros) 535 = .ok (.iconst 1, 1) := by decide +kernel
theorem d_M_zeros_536 : decode (rm_code mM_zeros) 536 = .ok (.invokevirtual 656, 3) := by decide +kernel
theorem d_M_zeros_539 : decode (rm_code mM_zeros) 539 = .ok (.aload_n 0, 1) := by decide +kernel
theorem d_M_zeros_540 : decode (rm_code mM_zeros) 540 = .ok (.iconst 2, 1) := by decide +kernel
theorem d_M_zeros_541 : decode (rm_code mM_zeros) 541 = .ok (.invokevirtual 704, 3) := by decide +kernel
theorem d_M_zeros_544 : decode (rm_code mM_zeros) 544 = .ok (.ireturn, 1) := by decide +kernel
theorem d_M_zeros_545 : decode (rm_code mM_zeros) 545 = .ok (.aload_n 0, 1) := by decide +kernel
theorem d_M_zeros_546 : decode (rm_code mM_zeros) 546 = .ok (.iconst 1, 1) := by decide +kernel
theorem d_M_zeros_547 : decode (rm_code mM_zeros) 547 = .ok (.invokevirtual 720, 3) := by decide +kernel
theorem d_M_zeros_550 : decode (rm_code mM_zeros) 550 = .ok (.ireturn, 1) := by decide +kernel
theorem d_M_zeros_551 : decode (rm_code mM_zeros) 551 = .ok (.aload_n 0, 1) := by decide +kernel
theorem d_M_zeros_552 : decode (rm_code mM_zeros) 552 = .ok (.iconst 4, 1) := by decide +kernel
theorem d_M_zeros_553 : decode (rm_code mM_zeros) 553 = .ok (.invokevirtual 720, 3) := by decide +kernel
theorem d_M_zeros_556 : decode (rm_code mM_zeros) 556 = .ok (.ireturn, 1) := by decide +kernel
theorem d_M_zeros_557 : decode (rm_code mM_zeros) 557 = .ok (.aload_n 0, 1) := by decide +kernel
theorem d_M_zeros_558 : decode (rm_code mM_zeros) 558 = .ok (.aload_n 0, 1) := by decide +kernel
theorem d_M_zeros_559 : decode (rm_code mM_zeros) 559 = .ok (.getfield 632, 3) := by decide +kernel
theorem d_M_zeros_562 : decode (rm_code mM_zeros) 562 = .ok (.iconst 1, 1) := by decide +kernel
theorem d_M_zeros_563 : decode (rm_code mM_zeros) 563 = .ok (.invokevirtual 710, 3) := by decide +kernel
theorem d_M_zeros_566 : decode (rm_code mM_zeros) 566 = .ok (.ireturn, 1) := by decide +kernel
theorem d_M_zeros_567 : decode (rm_code mM_zeros) 567 = .ok (.aload_n 0, 1) := by decide +kernel
theorem d_M_zeros_568 : decode (rm_code mM_zeros) 568 = .ok (.aload_n 0, 1) := by decide +kernel
theorem d_M_zeros_569 : decode (rm_code mM_zeros) 569 = .ok (.getfield 632, 3) := by decide +kernel
theorem d_M_zeros_572 : decode (rm_code mM_zeros) 572 = .ok (.iconst 2, 1) := by decide +kernel
theorem d_M_zeros_573 : decode (rm_code mM_zeros) 573 = .ok (.invokevirtual 710, 3) := by decide +kernel
theorem d_M_zeros_576 : decode (rm_code mM_zeros) 576 = .ok (.ireturn, 1) := by decide +kernel
theorem d_M_zeros_577 : decode (rm_code mM_zeros) 577 = .ok (.aload_n 0, 1) := by decide +kernel
theorem d_M_zeros_578 : decode (rm_code mM_zeros) 578 = .ok (.aload_n 0, 1) := by decide +kernel
theorem d_M_zeros_579 : decode (rm_code mM_zeros) 579 = .ok (.getfield 632, 3) := by decide +kernel
theorem d_M_zeros_582 : decode (rm_code mM_zeros) 582 = .ok (.iconst 4, 1) := by decide +kernel
theorem d_M_zeros_583 : decode (rm_code mM_zeros) 583 = .ok (.invokevirtual 710, 3) := by decide +kernel
theorem d_M_zeros_586 : decode (rm_code mM_zeros) 586 = .ok (.ireturn, 1) := by decide +kernel
theorem d_M_zeros_587 : decode (rm_code mM_zeros) 587 = .ok (.aload_n 0, 1) := by decide +kernel
theorem d_M_zeros_588 : decode (rm_code mM_zeros) 588 = .ok (.iconst 1, 1) := by decide +kernel
theorem d_M_zeros_589 : decode (rm_code mM_zeros) 589 = .ok (.iconst 0, 1) := by decide +kernel
theorem d_M_zeros_590 : decode (rm_code mM_zeros) 590 = .ok (.invokevirtual 713, 3) := by decide +kernel
theorem d_M_zeros_593 : decode (rm_code mM_zeros) 593 = .ok (.ireturn, 1) := by decide +kernel
theorem d_M_zeros_594 : decode (rm_code mM_zeros) 594 = .ok (.aload_n 0, 1) := by decide +kernel
theorem d_M_zeros_595 : decode (rm_code mM_zeros) 595 = .ok (.iconst 1, 1) := by decide +kernel
theorem d_M_zeros_596 : decode (rm_code mM_zeros) 596 = .ok (.iconst 1, 1) := by decide +kernel
theorem d_M_zeros_597 : decode (rm_code mM_zeros) 597 = .ok (.invokevirtual 713, 3) := by decide +kernel
theorem d_M_zeros_600 : decode (rm_code mM_zeros) 600 = .ok (.ireturn, 1) := by decide +kernel
theorem d_M_zeros_601 : decode (rm_code mM_zeros) 601 = .ok (.aload_n 0, 1) := by decide +kernel
theorem d_M_zeros_602 : decode (rm_code mM_zeros) 602 = .ok (.iconst 1, 1) := by decide +kernel
theorem d_M_zeros_603 : decode (rm_code mM_zeros) 603 = .ok (.iconst 2, 1) := by decide +kernel
theorem d_M_zeros_604 : decode (rm_code mM_zeros) 604 = .ok (.invokevirtual 713, 3) := by decide +kernel
theorem d_M_zeros_607 : decode (rm_code mM_zeros) 607 = .ok (.ireturn, 1) := by decide +kernel
theorem d_M_zeros_608 : decode (rm_code mM_zeros) 608 = .ok (.aload_n 0, 1) := by decide +kernel
theorem d_M_zeros_609 : decode (rm_code mM_zeros) 609 = .ok (.iconst 1, 1) := by decide +kernel
theorem d_M_zeros_610 : decode (rm_code mM_zeros) 610 = .ok (.iconst 4, 1) := by decide +kernel
theorem d_M_zeros_611 : decode (rm_code mM_zeros) 611 = .ok (.invokevirtual 713, 3) := by decide +kernel
theorem d_M_zeros_614 : decode (rm_code mM_zeros) 614 = .ok (.ireturn, 1) := by decide +kernel
theorem d_M_zeros_615 : decode (rm_code mM_zeros) 615 = .ok (.aload_n 0, 1) := by decide +kernel
theorem d_M_zeros_616 : decode (rm_code mM_zeros) 616 = .ok (.iconst 1, 1) := by decide +kernel
theorem d_M_zeros_617 : decode (rm_code mM_zeros) 617 = .ok (.iconst 5, 1) := by decide +kernel
theorem d_M_zeros_618 : decode (rm_code mM_zeros) 618 = .ok (.invokevirtual 713, 3) := by decide +kernel
theorem d_M_zeros_621 : decode (rm_code mM_zeros) 621 = .ok (.ireturn, 1) := by decide +kernel
theorem d_M_zeros_622 : decode (rm_code mM_zeros) 622 = .ok (.aload_n 0, 1) := by decide +kernel
theorem d_M_zeros_623 : decode (rm_code mM_zeros) 623 = .ok (.aload_n 0, 1) := by decide +kernel
theorem d_M_zeros_624 : decode (rm_code mM_zeros) 624 = .ok (.getfield 632, 3) := by decide +kernel
theorem d_M_zeros_627 : decode (rm_code mM_zeros) 627 = .ok (.iconst 0, 1) := by decide +kernel
theorem d_M_zeros_628 : decode (rm_code mM_zeros) 628 = .ok (.invokevirtual 723, 3) := by decide +kernel
theorem d_M_zeros_631 : decode (rm_code mM_zeros) 631 = .ok (.ireturn, 1) := by decide +kernel
theorem d_M_zeros_632 : decode (rm_code mM_zeros) 632 = .ok (.aload_n 0, 1) := by decide +kernel
theorem d_M_zeros_633 : decode (rm_code mM_zeros) 633 = .ok (.aload_n 0, 1) := by decide +kernel
theorem d_M_zeros_634 : decode (rm_code mM_zeros) 634 = .ok (.getfield 632, 3) := by decide +kernel
theorem d_M_zeros_637 : decode (rm_code mM_zeros) 637 = .ok (.iconst 1, 1) := by decide +kernel
theorem d_M_zeros_638 : decode (rm_code mM_zeros) 638 = .ok (.invokevirtual 723, 3) := by decide +kernel
theorem d_M_zeros_641 : decode (rm_code mM_zeros) 641 = .ok (.ireturn, 1) := by decide +kernel
theorem d_M_zeros_642 : decode (rm_code mM_zeros) 642 = .ok (.aload_n 0, 1) := by decide +kernel
theorem d_M_zeros_643 : decode (rm_code mM_zeros) 643 = .ok (.aload_n 0, 1) := by decide +kernel
theorem d_M_zeros_644 : decode (rm_code mM_zeros) 644 = .ok (.getfield 632, 3) := by decide +kernel
theorem d_M_zeros_647 : decode (rm_code mM_zeros) 647 = .ok (.iconst 4, 1) := by decide +kernel
theorem d_M_zeros_648 : decode (rm_code mM_zeros) 648 = .ok (.invokevirtual 723, 3) := by decide +kernel
theorem d_M_zeros_651 : decode (rm_code mM_zeros) 651 = .ok (.ireturn, 1) := by decide +kernel
theorem d_M_zeros_652 : decode (rm_code mM_zeros) 652 = .ok (.aload_n 0, 1) := by decide +kernel
theorem d_M_zeros_653 : decode (rm_code mM_zeros) 653 = .ok (.aload_n 0, 1) := by decide +kernel
theorem d_M_zeros_654 : decode (rm_code mM_zeros) 654 = .ok (.getfield 629, 3) := by decide +kernel
theorem d_M_zeros_657 : decode (rm_code mM_zeros) 657 = .ok (.iconst 0, 1) := by decide +kernel
theorem d_M_zeros_658 : decode (rm_code mM_zeros) 658 = .ok (.invokevirtual 723, 3) := by decide +kernel
theorem d_M_zeros_661 : decode (rm_code mM_zeros) 661 = .ok (.ireturn, 1) := by decide +kernel
theorem d_M_zeros_662 : decode (rm_code mM_zeros) 662 = .ok (.aload_n 0, 1) := by decide +kernel
theorem d_M_zeros_663 : decode (rm_code mM_zeros) 663 = .ok (.aload_n 0, 1) := by decide +kernel
theorem d_M_zeros_664 : decode (rm_code mM_zeros) 664 = .ok (.getfield 629, 3) := by decide +kernel
theorem d_M_zeros_667 : decode (rm_code mM_zeros) 667 = .ok (.iconst 1, 1) := by decide +kernel
theorem d_M_zeros_668 : decode (rm_code mM_zeros) 668 = .ok (.invokevirtual 723, 3) := by decide +kernel
theorem d_M_zeros_671 : decode (rm_code mM_zeros) 671 = .ok (.ireturn, 1) := by decide +kernel
theorem d_M_zeros_672 : decode (rm_code mM_zeros) 672 = .ok (.aload_n 0, 1) := by decide +kernel
theorem d_M_zeros_673 : decode (rm_code mM_zeros) 673 = .ok (.aload_n 0, 1) := by decide +kernel
theorem d_M_zeros_674 : decode (rm_code mM_zeros) 674 = .ok (.getfield 629, 3) := by decide +kernel
theorem d_M_zeros_677 : decode (rm_code mM_zeros) 677 = .ok (.iconst 4, 1) := by decide +kernel
theorem d_M_zeros_678 : decode (rm_code mM_zeros) 678 = .ok (.invokevirtual 723, 3) := by decide +kernel
theorem d_M_zeros_681 : decode (rm_code mM_zeros) 681 = .ok (.ireturn, 1) := by decide +kernel
theorem d_M_zeros_682 : decode (rm_code mM_zeros) 682 = .ok (.aload_n 0, 1) := by decide +kernel
theorem d_M_zeros_683 : decode (rm_code mM_zeros) 683 = .ok (.aload_n 0, 1) := by decide +kernel
theorem d_M_zeros_684 : decode (rm_code mM_zeros) 684 = .ok (.aload_n 0, 1) := by decide +kernel
theorem d_M_zeros_685 : decode (rm_code mM_zeros) 685 = .ok (.getfield 632, 3) := by decide +kernel
theorem d_M_zeros_688 : decode (rm_code mM_zeros) 688 = .ok (.iconst 1, 1) := by decide +kernel
theorem d_M_zeros_689 : decode (rm_code mM_zeros) 689 = .ok (.isub, 1) := by decide +kernel
theorem d_M_zeros_690 : decode (rm_code mM_zeros) 690 = .ok (.invokevirtual 669, 3) := by decide +kernel
theorem d_M_zeros_693 : decode (rm_code mM_zeros) 693 = .ok (.putfield 632, 3) := by decide +kernel
theorem d_M_zeros_696 : decode (rm_code mM_zeros) 696 = .ok (.aload_n 0, 1) := by decide +kernel
theorem d_M_zeros_697 : decode (rm_code mM_zeros) 697 = .ok (.iconst 2, 1) := by decide +kernel
theorem d_M_zeros_698 : decode (rm_code mM_zeros) 698 = .ok (.invokevirtual 704, 3) := by decide +kernel
theorem d_M_zeros_701 : decode (rm_code mM_zeros) 701 = .ok (.ireturn, 1) := by decide +kernel
theorem d_M_zeros_702 : decode (rm_code mM_zeros) 702 = .ok (.aload_n 0, 1) := by decide +kernel
theorem d_M_zeros_703 : decode (rm_code mM_zeros) 703 = .ok (.aload_n 0, 1) := by decide +kernel
theorem d_M_zeros_704 : decode (rm_code mM_zeros) 704 = .ok (.aload_n 0, 1) := by decide +kernel
theorem d_M_zeros_705 : decode (rm_code mM_zeros) 705 = .ok (.getfield 632, 3) := by decide +kernel
theorem d_M_zeros_708 : decode (rm_code mM_zeros) 708 = .ok (.iconst 1, 1) := by decide +kernel
theorem d_M_zeros_709 : decode (rm_code mM_zeros) 709 = .ok (.iadd, 1) := by decide +kernel
theorem d_M_zeros_710 : decode (rm_code mM_zeros) 710 = .ok (.invokevirtual 669, 3) := by decide +kernel
theorem d_M_zeros_713 : decode (rm_code mM_zeros) 713 = .ok (.putfield 632, 3) := by decide +kernel
theorem d_M_zeros_716 : decode (rm_code mM_zeros) 716 = .ok (.aload_n 0, 1) := by decide +kernel
theorem d_M_zeros_717 : decode (rm_code mM_zeros) 717 = .ok (.iconst 2, 1) := by decide +kernel
theorem d_M_zeros_718 : decode (rm_code mM_zeros) 718 = .ok (.invokevirtual 704, 3) := by decide +kernel
theorem d_M_zeros_721 : decode (rm_code mM_zeros) 721 = .ok (.ireturn, 1) := by decide +kernel
theorem d_M_zeros_722 : decode (rm_code mM_zeros) 722 = .ok (.aload_n 0, 1) := by decide +kernel
theorem d_M_zeros_723 : decode (rm_code mM_zeros) 723 = .ok (.aload_n 0, 1) := by decide +kernel
theorem d_M_zeros_724 : decode (rm_code mM_zeros) 724 = .ok (.aload_n 0, 1) := by decide +kernel
theorem d_M_zeros_725 : decode (rm_code mM_zeros) 725 = .ok (.getfield 629, 3) := by decide +kernel
theorem d_M_zeros_728 : decode (rm_code mM_zeros) 728 = .ok (.iconst 1, 1) := by decide +kernel
theorem d_M_zeros_729 : decode (rm_code mM_zeros) 729 = .ok (.iadd, 1) := by decide +kernel
theorem d_M_zeros_730 : decode (rm_code mM_zeros) 730 = .ok (.invokevirtual 669, 3) := by decide +kernel
theorem d_M_zeros_733 : decode (rm_code mM_zeros) 733 = .ok (.putfield 629, 3) := by decide +kernel
theorem d_M_zeros_736 : decode (rm_code mM_zeros) 736 = .ok (.aload_n 0, 1) := by decide +kernel
theorem d_M_zeros_737 : decode (rm_code mM_zeros) 737 = .ok (.iconst 2, 1) := by decide +kernel
theorem d_M_zeros_738 : decode (rm_code mM_zeros) 738 = .ok (.invokevirtual 704, 3) := by decide +kernel
theorem d_M_zeros_741 : decode (rm_code mM_zeros) 741 = .ok (.ireturn, 1) := by decide +kernel
theorem d_M_zeros_742 : decode (rm_code mM_zeros) 742 = .ok (.aload_n 0, 1) := by decide +kernel
theorem d_M_zeros_743 : decode (rm_code mM_zeros) 743 = .ok (.aload_n 0, 1) := by decide +kernel
theorem d_M_zeros_744 : decode (rm_code mM_zeros) 744 = .ok (.aload_n 0, 1) := by decide +kernel
theorem d_M_zeros_745 : decode (rm_code mM_zeros) 745 = .ok (.getfield 632, 3) := by decide +kernel
theorem d_M_zeros_748 : decode (rm_code mM_zeros) 748 = .ok (.invokevirtual 669, 3) := by decide +kernel
theorem d_M_zeros_751 : decode (rm_code mM_zeros) 751 = .ok (.putfield 626, 3) := by decide +kernel
theorem d_M_zeros_754 : decode (rm_code mM_zeros) 754 = .ok (.aload_n 0, 1) := by decide +kernel
theorem d_M_zeros_755 : decode (rm_code mM_zeros) 755 = .ok (.iconst 2, 1) := by decide +kernel
theorem d_M_zeros_756 : decode (rm_code mM_zeros) 756 = .ok (.invokevirtual 704, 3) := by decide +kernel
theorem d_M_zeros_759 : decode (rm_code mM_zeros) 759 = .ok (.ireturn, 1) := by decide +kernel
theorem d_M_zeros_760 : decode (rm_code mM_zeros) 760 = .ok (.aload_n 0, 1) := by decide +kernel
theorem d_M_zeros_761 : decode (rm_code mM_zeros) 761 = .ok (.aload_n 0, 1) := by decide +kernel
theorem d_M_zeros_762 : decode (rm_code mM_zeros) 762 = .ok (.aload_n 0, 1) := by decide +kernel
theorem d_M_zeros_763 : decode (rm_code mM_zeros) 763 = .ok (.getfield 626, 3) := by decide +kernel
theorem d_M_zeros_766 : decode (rm_code mM_zeros) 766 = .ok (.invokevirtual 669, 3) := by decide +kernel
theorem d_M_zeros_769 : decode (rm_code mM_zeros) 769 = .ok (.putfield 632, 3) := by decide +kernel
theorem d_M_zeros_772 : decode (rm_code mM_zeros) 772 = .ok (.aload_n 0, 1) := by decide +kernel
theorem d_M_zeros_773 : decode (rm_code mM_zeros) 773 = .ok (.iconst 2, 1) := by decide +kernel
theorem d_M_zeros_774 : decode (rm_code mM_zeros) 774 = .ok (.invokevirtual 704, 3) := by decide +kernel
theorem d_M_zeros_777 : decode (rm_code mM_zeros) 777 = .ok (.ireturn, 1) := by decide +kernel
theorem d_M_zeros_778 : decode (rm_code mM_zeros) 778 = .ok (.aload_n 0, 1) := by decide +kernel
theorem d_M_zeros_779 : decode (rm_code mM_zeros) 779 = .ok (.aload_n 0, 1) := by decide +kernel
theorem d_M_zeros_780 : decode (rm_code mM_zeros) 780 = .ok (.getfield 638, 3) := by decide +kernel
theorem d_M_zeros_783 : decode (rm_code mM_zeros) 783 = .ok (.bipush (48), 2) := by decide +kernel
theorem d_M_zeros_785 : decode (rm_code mM_zeros) 785 = .ok (.ior, 1) := by decide +kernel
theorem d_M_zeros_786 : decode (rm_code mM_zeros) 786 = .ok (.invokevirtual 726, 3) := by decide +kernel
theorem d_M_zeros_789 : decode (rm_code mM_zeros) 789 = .ok (.aload_n 0, 1) := by decide +kernel
theorem d_M_zeros_790 : decode (rm_code mM_zeros) 790 = .ok (.iconst 3, 1) := by decide +kernel
theorem d_M_zeros_791 : decode (rm_code mM_zeros) 791 = .ok (.invokevirtual 704, 3) := by decide +kernel
theorem d_M_zeros_794 : decode (rm_code mM_zeros) 794 = .ok (.ireturn, 1) := by decide +kernel
theorem d_M_zeros_795 : decode (rm_code mM_zeros) 795 = .ok (.aload_n 0, 1) := by decide +kernel
theorem d_M_zeros_796 : decode (rm_code mM_zeros) 796 = .ok (.aload_n 0, 1) := by decide +kernel
theorem d_M_zeros_797 : decode (rm_code mM_zeros) 797 = .ok (.invokevirtual 729, 3) := by decide +kernel
theorem d_M_zeros_800 : decode (rm_code mM_zeros) 800 = .ok (.sipush (207), 3) := by decide +kernel
theorem d_M_zeros_803 : decode (rm_code mM_zeros) 803 = .ok (.iand, 1) := by decide +kernel
theorem d_M_zeros_804 : decode (rm_code mM_zeros) 804 = .ok (.aload_n 0, 1) := by decide +kernel
theorem d_M_zeros_805 : decode (rm_code mM_zeros) 805 = .ok (.getfield 638, 3) := by decide +kernel
theorem d_M_zeros_808 : decode (rm_code mM_zeros) 808 = .ok (.bipush (48), 2) := by decide +kernel
theorem d_M_zeros_810 : decode (rm_code mM_zeros) 810 = .ok (.iand, 1) := by decide +kernel
theorem d_M_zeros_811 : decode (rm_code mM_zeros) 811 = .ok (.ior, 1) := by decide +kernel
theorem d_M_zeros_812 : decode (rm_code mM_zeros) 812 = .ok (.putfield 638, 3) := by decide +kernel
theorem d_M_zeros_815 : decode (rm_code mM_zeros) 815 = .ok (.aload_n 0, 1) := by decide +kernel
theorem d_M_zeros_816 : decode (rm_code mM_zeros) 816 = .ok (.iconst 4, 1) := by decide +kernel
theorem d_M_zeros_817 : decode (rm_code mM_zeros) 817 = .ok (.invokevirtual 704, 3) := by decide +kernel
theorem d_M_zeros_820 : decode (rm_code mM_zeros) 820 = .ok (.ireturn, 1) := by decide +kernel
theorem d_M_zeros_821 : decode (rm_code mM_zeros) 821 = .ok (.aload_n 0, 1) := by decide +kernel
theorem d_M_zeros_822 : decode (rm_code mM_zeros) 822 = .ok (.aload_n 0, 1) := by decide +kernel
theorem d_M_zeros_823 : decode (rm_code mM_zeros) 823 = .ok (.getfield 626, 3) := by decide +kernel
theorem d_M_zeros_826 : decode (rm_code mM_zeros) 826 = .ok (.invokevirtual 726, 3) := by decide +kernel
theorem d_M_zeros_829 : decode (rm_code mM_zeros) 829 = .ok (.aload_n 0, 1) := by decide +kernel
theorem d_M_zeros_830 : decode (rm_code mM_zeros) 830 = .ok (.iconst 3, 1) := by decide +kernel
theorem d_M_zeros_831 : decode (rm_code mM_zeros) 831 = .ok (.invokevirtual 704, 3) := by decide +kernel
theorem d_M_zeros_834 : decode (rm_code mM_zeros) 834 = .ok (.ireturn, 1) := by decide +kernel
theorem d_M_zeros_835 : decode (rm_code mM_zeros) 835 = .ok (.aload_n 0, 1) := by decide +kernel
theorem d_M_zeros_836 : decode (rm_code mM_zeros) 836 = .ok (.aload_n 0, 1) := by decide +kernel
theorem d_M_zeros_837 : decode (rm_code mM_zeros) 837 = .ok (.aload_n 0, 1) := by decide +kernel
theorem d_M_zeros_838 : decode (rm_code mM_zeros) 838 = .ok (.invokevirtual 729, 3) := by decide +kernel
theorem d_M_zeros_841 : decode (rm_code mM_zeros) 841 = .ok (.invokevirtual 669, 3) := by decide +kernel
theorem d_M_zeros_844 : decode (rm_code mM_zeros) 844 = .ok (.putfield 626, 3) := by decide +kernel
theorem d_M_zeros_847 : decode (rm_code mM_zeros) 847 = .ok (.aload_n 0, 1) := by decide +kernel
theorem d_M_zeros_848 : decode (rm_code mM_zeros) 848 = .ok (.iconst 4, 1) := by decide +kernel
theorem d_M_zeros_849 : decode (rm_code mM_zeros) 849 = .ok (.invokevirtual 704, 3) := by decide +kernel
theorem d_M_zeros_852 : decode (rm_code mM_zeros) 852 = .ok (.ireturn, 1) := by decide +kernel
theorem d_M_zeros_853 : decode (rm_code mM_zeros) 853 = .ok (.aload_n 0, 1) := by decide +kernel
theorem d_M_zeros_854 : decode (rm_code mM_zeros) 854 = .ok (.iload_n 1, 1) := by decide +kernel
theorem d_M_zeros_855 : decode (rm_code mM_zeros) 855 = .ok (.invokevirtual 732, 3) := by decide +kernel
theorem d_M_zeros_858 : decode (rm_code mM_zeros) 858 = .ok (.ireturn, 1) := by decide +kernel
theorem p_M_zeros_0 {S : rz_S} {K : Int32 → rz_S → Prop} {a1 : Int32} (w : ((a1 = 8 → rz_ev mM_push [.ref 116, .int ((S.2 116 79) ||| 48)] S (rz_v (fun Sq2 => rz_ev mM_takes2 [.ref 116, .int 3] Sq2 (rz_i (fun xq3 Sq3 => (xq3 = 0 ∨ xq3 = 1) ∧ K xq3 Sq3))))) ∧ (a1 = 16 → rz_ev mM_is [.ref 116, .int 128] S (rz_i (fun xq5 Sq5 => ((xq5 = 0 → rz mM_zeros 348 [] [.int 1, .ref 116] Sq5 (rz_i K)) ∧ (¬ xq5 = 0 → rz mM_zeros 348 [] [.int 0, .ref 116] Sq5 (rz_i K)))))) ∧ (a1 = 24 → rz_ev mM_flag [.ref 116, .int 1, .int 0] S (rz_v (fun Sq8 => rz_ev mM_takes2 [.ref 116, .int 2] Sq8 (rz_i (fun xq9 Sq9 => (xq9 = 0 ∨ xq9 = 1) ∧ K xq9 Sq9))))) ∧ (a1 = 36 → rz_ev mM_tests [.ref 116, .int 1] S (rz_i (fun xq11 Sq11 => (xq11 = 0 ∨ xq11 = 1) ∧ K xq11 Sq11))) ∧ (a1 = 40 → rz_ev mM_pull [.ref 116] S (rz_i (fun xq13 Sq13 => rz_ev mM_takes2 [.ref 116, .int 4] (rz_uI Sq13 116 79 ((xq13 &&& 207) ||| ((Sq13.2 116 79) &&& 48))) (rz_i (fun xq14 Sq14 => (xq14 = 0 ∨ xq14 = 1) ∧ K xq14 Sq14))))) ∧ (a1 = 44 → rz_ev mM_tests [.ref 116, .int 4] S (rz_i (fun xq16 Sq16 => (xq16 = 0 ∨ xq16 = 1) ∧ K xq16 Sq16))) ∧ (a1 = 48 → rz_ev mM_is [.ref 116, .int 128] S (rz_i (fun xq18 Sq18 => rz_ev mM_branch [.ref 116, .int xq18] Sq18 (rz_v (fun Sq19 => K 1 Sq19))))) ∧ (a1 = 56 → rz_ev mM_flag [.ref 116, .int 1, .int 1] S (rz_v (fun Sq21 => rz_ev mM_takes2 [.ref 116, .int 2] Sq21 (rz_i (fun xq22 Sq22 => (xq22 = 0 ∨ xq22 = 1) ∧ K xq22 Sq22))))) ∧ (a1 = 72 → rz_ev mM_push [.ref 116, .int (S.2 116 75)] S (rz_v (fun Sq24 => rz_ev mM_takes2 [.ref 116, .int 3] Sq24 (rz_i (fun xq25 Sq25 => (xq25 = 0 ∨ xq25 = 1) ∧ K xq25 Sq25))))) ∧ (a1 = 80 → rz_ev mM_is [.ref 116, .int 64] S (rz_i (fun xq27 Sq27 => ((xq27 = 0 → rz mM_zeros 381 [] [.int 1, .ref 116] Sq27 (rz_i K)) ∧ (¬ xq27 = 0 → rz mM_zeros 381 [] [.int 0, .ref 116] Sq27 (rz_i K)))))) ∧ (a1 = 88 → rz_ev mM_flag [.ref 116, .int 4, .int 0] S (rz_v (fun Sq30 => rz_ev mM_takes2 [.ref 116, .int 2] Sq30 (rz_i (fun xq31 Sq31 => (xq31 = 0 ∨ xq31 = 1) ∧ K xq31 Sq31))))) ∧ (a1 = 104 → rz_ev mM_pull [.ref 116] S (rz_i (fun xq33 Sq33 => rz_ev mM_marks [.ref 116, .int xq33] Sq33 (rz_i (fun xq34 Sq34 => rz_ev mM_takes2 [.ref 116, .int 4] (rz_uI Sq34 116 75 xq34) (rz_i (fun xq35 Sq35 => (xq35 = 0 ∨ xq35 = 1) ∧ K xq35 Sq35))))))) ∧ (a1 = 112 → rz_ev mM_is [.ref 116, .int 64] S (rz_i (fun xq37 Sq37 => rz_ev mM_branch [.ref 116, .int xq37] Sq37 (rz_v (fun Sq38 => K 1 Sq38))))) ∧ (a1 = 120 → rz_ev mM_flag [.ref 116, .int 4, .int 1] S (rz_v (fun Sq40 => rz_ev mM_takes2 [.ref 116, .int 2] Sq40 (rz_i (fun xq41 Sq41 => (xq41 = 0 ∨ xq41 = 1) ∧ K xq41 Sq41))))) ∧ (a1 = 132 → rz_ev mM_keeps [.ref 116, .int (S.2 116 77), .int 1] S (rz_i (fun xq43 Sq43 => (xq43 = 0 ∨ xq43 = 1) ∧ K xq43 Sq43))) ∧ (a1 = 136 → rz_ev mM_marks [.ref 116, .int ((S.2 116 77) - 1)] S (rz_i (fun xq45 Sq45 => rz_ev mM_takes2 [.ref 116, .int 2] (rz_uI Sq45 116 77 xq45) (rz_i (fun xq46 Sq46 => (xq46 = 0 ∨ xq46 = 1) ∧ K xq46 Sq46))))) ∧ (a1 = 140 → rz_ev mM_keeps [.ref 116, .int (S.2 116 77), .int 4] S (rz_i (fun xq48 Sq48 => (xq48 = 0 ∨ xq48 = 1) ∧ K xq48 Sq48))) ∧ (a1 = 144 → rz_ev mM_is [.ref 116, .int 1] S (rz_i (fun xq50 Sq50 => ((xq50 = 0 → rz mM_zeros 412 [] [.int 1, .ref 116] Sq50 (rz_i K)) ∧ (¬ xq50 = 0 → rz mM_zeros 412 [] [.int 0, .ref 116] Sq50 (rz_i K)))))) ∧ (a1 = 148 → rz_ev mM_keeps [.ref 116, .int (S.2 116 77), .int 2] S (rz_i (fun xq53 Sq53 => (xq53 = 0 ∨ xq53 = 1) ∧ K xq53 Sq53))) ∧ (a1 = 152 → rz_ev mM_marks [.ref 116, .int (S.2 116 77)] S (rz_i (fun xq55 Sq55 => rz_ev mM_takes2 [.ref 116, .int 2] (rz_uI Sq55 116 75 xq55) (rz_i (fun xq56 Sq56 => (xq56 = 0 ∨ xq56 = 1) ∧ K xq56 Sq56))))) ∧ (a1 = 160 → rz_ev mM_fetches [.ref 116, .int 1, .int 0] S (rz_i (fun xq58 Sq58 => (xq58 = 0 ∨ xq58 = 1) ∧ K xq58 Sq58))) ∧ (a1 = 164 → rz_ev mM_fetches [.ref 116, .int 1, .int 1] S (rz_i (fun xq60 Sq60 => (xq60 = 0 ∨ xq60 = 1) ∧ K xq60 Sq60))) ∧ (a1 = 168 → rz_ev mM_marks [.ref 116, .int (S.2 116 75)] S (rz_i (fun xq62 Sq62 => rz_ev mM_takes2 [.ref 116, .int 2] (rz_uI Sq62 116 77 xq62) (rz_i (fun xq63 Sq63 => (xq63 = 0 ∨ xq63 = 1) ∧ K xq63 Sq63))))) ∧ (a1 = 172 → rz_ev mM_fetches [.ref 116, .int 1, .int 4] S (rz_i (fun xq65 Sq65 => (xq65 = 0 ∨ xq65 = 1) ∧ K xq65 Sq65))) ∧ (a1 = 176 → rz_ev mM_is [.ref 116, .int 1] S (rz_i (fun xq67 Sq67 => rz_ev mM_branch [.ref 116, .int xq67] Sq67 (rz_v (fun Sq68 => K 1 Sq68))))) ∧ (a1 = 180 → rz_ev mM_fetches [.ref 116, .int 1, .int 2] S (rz_i (fun xq70 Sq70 => (xq70 = 0 ∨ xq70 = 1) ∧ K xq70 Sq70))) ∧ (a1 = 184 → rz_ev mM_flag [.ref 116, .int 64, .int 0] S (rz_v (fun Sq72 => rz_ev mM_takes2 [.ref 116, .int 2] Sq72 (rz_i (fun xq73 Sq73 => (xq73 = 0 ∨ xq73 = 1) ∧ K xq73 Sq73))))) ∧ (a1 = 188 → rz_ev mM_fetches [.ref 116, .int 1, .int 5] S (rz_i (fun xq75 Sq75 => (xq75 = 0 ∨ xq75 = 1) ∧ K xq75 Sq75))) ∧ (a1 = 192 → rz_ev mM_compared [.ref 116, .int (S.2 116 77), .int 0] S (rz_i (fun xq77 Sq77 => (xq77 = 0 ∨ xq77 = 1) ∧ K xq77 Sq77))) ∧ (a1 = 196 → rz_ev mM_compared [.ref 116, .int (S.2 116 77), .int 1] S (rz_i (fun xq79 Sq79 => (xq79 = 0 ∨ xq79 = 1) ∧ K xq79 Sq79))) ∧ (a1 = 200 → rz_ev mM_marks [.ref 116, .int ((S.2 116 77) + 1)] S (rz_i (fun xq81 Sq81 => rz_ev mM_takes2 [.ref 116, .int 2] (rz_uI Sq81 116 77 xq81) (rz_i (fun xq82 Sq82 => (xq82 = 0 ∨ xq82 = 1) ∧ K xq82 Sq82))))) ∧ (a1 = 204 → rz_ev mM_compared [.ref 116, .int (S.2 116 77), .int 4] S (rz_i (fun xq84 Sq84 => (xq84 = 0 ∨ xq84 = 1) ∧ K xq84 Sq84))) ∧ (a1 = 208 → rz_ev mM_is [.ref 116, .int 2] S (rz_i (fun xq86 Sq86 => ((xq86 = 0 → rz mM_zeros 442 [] [.int 1, .ref 116] Sq86 (rz_i K)) ∧ (¬ xq86 = 0 → rz mM_zeros 442 [] [.int 0, .ref 116] Sq86 (rz_i K)))))) ∧ (a1 = 216 → rz_ev mM_flag [.ref 116, .int 8, .int 0] S (rz_v (fun Sq89 => rz_ev mM_takes2 [.ref 116, .int 2] Sq89 (rz_i (fun xq90 Sq90 => (xq90 = 0 ∨ xq90 = 1) ∧ K xq90 Sq90))))) ∧ (a1 = 224 → rz_ev mM_compared [.ref 116, .int (S.2 116 76), .int 0] S (rz_i (fun xq92 Sq92 => (xq92 = 0 ∨ xq92 = 1) ∧ K xq92 Sq92))) ∧ (a1 = 228 → rz_ev mM_compared [.ref 116, .int (S.2 116 76), .int 1] S (rz_i (fun xq94 Sq94 => (xq94 = 0 ∨ xq94 = 1) ∧ K xq94 Sq94))) ∧ (a1 = 232 → rz_ev mM_marks [.ref 116, .int ((S.2 116 76) + 1)] S (rz_i (fun xq96 Sq96 => rz_ev mM_takes2 [.ref 116, .int 2] (rz_uI Sq96 116 76 xq96) (rz_i (fun xq97 Sq97 => (xq97 = 0 ∨ xq97 = 1) ∧ K xq97 Sq97))))) ∧ (a1 = 236 → rz_ev mM_compared [.ref 116, .int (S.2 116 76), .int 4] S (rz_i (fun xq99 Sq99 => (xq99 = 0 ∨ xq99 = 1) ∧ K xq99 Sq99))) ∧ (a1 = 240 → rz_ev mM_is [.ref 116, .int 2] S (rz_i (fun xq101 Sq101 => rz_ev mM_branch [.ref 116, .int xq101] Sq101 (rz_v (fun Sq102 => K 1 Sq102))))) ∧ (a1 = 248 → rz_ev mM_flag [.ref 116, .int 8, .int 1] S (rz_v (fun Sq104 => rz_ev mM_takes2 [.ref 116, .int 2] Sq104 (rz_i (fun xq105 Sq105 => (xq105 = 0 ∨ xq105 = 1) ∧ K xq105 Sq105))))) ∧ (¬ a1 = 8 → ¬ a1 = 16 → ¬ a1 = 24 → ¬ a1 = 36 → ¬ a1 = 40 → ¬ a1 = 44 → ¬ a1 = 48 → ¬ a1 = 56 → ¬ a1 = 72 → ¬ a1 = 80 → ¬ a1 = 88 → ¬ a1 = 104 → ¬ a1 = 112 → ¬ a1 = 120 → ¬ a1 = 132 → ¬ a1 = 136 → ¬ a1 = 140 → ¬ a1 = 144 → ¬ a1 = 148 → ¬ a1 = 152 → ¬ a1 = 160 → ¬ a1 = 164 → ¬ a1 = 168 → ¬ a1 = 172 → ¬ a1 = 176 → ¬ a1 = 180 → ¬ a1 = 184 → ¬ a1 = 188 → ¬ a1 = 192 → ¬ a1 = 196 → ¬ a1 = 200 → ¬ a1 = 204 → ¬ a1 = 208 → ¬ a1 = 216 → ¬ a1 = 224 → ¬ a1 = 228 → ¬ a1 = 232 → ¬ a1 = 236 → ¬ a1 = 240 → ¬ a1 = 248 → rz_ev mM_jumps [.ref 116, .int a1] S (rz_i (fun xq106 Sq106 => (xq106 = 0 ∨ xq106 = 1) ∧ K xq106 Sq106))))) : rz mM_zeros 0 [(0, .ref 116), (1, .int a1)] [] S (rz_i K) := by
  refine rz_pure (pc' := 1) d_M_zeros_0 rfl ?_
  by_cases b1 : a1 = 8
  · refine rz_lsj (v := 8) (tgt := 778) d_M_zeros_1 b1 rfl ?_
    refine rz_pure (pc' := 779) d_M_zeros_778 rfl ?_
    refine rz_pure (pc' := 780) d_M_zeros_779 rfl ?_
    refine rz_getiv (v := S.2 116 79) d_M_zeros_780 f_12_638 rfl rfl rfl ?_
    refine rz_bipush (v := 48) d_M_zeros_783 (by decide) ?_
    refine rz_ior d_M_zeros_785 ?_
    refine rz_callVv (t := [.int ((S.2 116 79) ||| 48)]) d_M_zeros_786 w_12_726 rfl rfl rfl (w.1 b1) (fun Sq2 q2 => ?_)
    refine rz_pure (pc' := 790) d_M_zeros_789 rfl ?_
    refine rz_iconst (v := 3) d_M_zeros_790 (by decide) ?_
    refine rz_callVi (t := [.int 3]) d_M_zeros_791 w_12_704 rfl rfl rfl q2 (fun xq3 Sq3 q3 => ?_)
    exact rz_ireti d_M_zeros_794 rfl (rz_bnok q3.1) q3.2
  by_cases b4 : a1 = 16
  · refine rz_lsj (v := 16) (tgt := 332) d_M_zeros_1 b4 rfl ?_
    refine rz_pure (pc' := 333) d_M_zeros_332 rfl ?_
    refine rz_pure (pc' := 334) d_M_zeros_333 rfl ?_
    refine rz_sipush (v := 128) d_M_zeros_334 (by decide) ?_
    refine rz_callVi (t := [.int 128]) d_M_zeros_337 w_12_666 rfl rfl rfl (w.2.1 b4) (fun xq5 Sq5 q5 => ?_)
    refine rz_ifne (tgt := 347) d_M_zeros_340 rfl (fun b6 => ?_) (fun b6 => ?_)
    · skip
      refine rz_iconst (v := 0) d_M_zeros_347 (by decide) ?_
      exact rz_pick (ks := []) (l := []) rfl rfl (by decide) rfl (q5.2 b6)
    · skip
      refine rz_iconst (v := 1) d_M_zeros_343 (by decide) ?_
      refine rz_pure (pc' := 348) d_M_zeros_344 rfl ?_
      exact rz_pick (ks := []) (l := []) rfl rfl (by decide) rfl (q5.1 b6)
  by_cases b7 : a1 = 24
  · refine rz_lsj (v := 24) (tgt := 458) d_M_zeros_1 b7 rfl ?_
    refine rz_pure (pc' := 459) d_M_zeros_458 rfl ?_
    refine rz_iconst (v := 1) d_M_zeros_459 (by decide) ?_
    refine rz_iconst (v := 0) d_M_zeros_460 (by decide) ?_
    refine rz_callVv (t := [.int 0, .int 1]) d_M_zeros_461 w_12_656 rfl rfl rfl (w.2.2.1 b7) (fun Sq8 q8 => ?_)
    refine rz_pure (pc' := 465) d_M_zeros_464 rfl ?_
    refine rz_iconst (v := 2) d_M_zeros_465 (by decide) ?_
    refine rz_callVi (t := [.int 2]) d_M_zeros_466 w_12_704 rfl rfl rfl q8 (fun xq9 Sq9 q9 => ?_)
    exact rz_ireti d_M_zeros_469 rfl (rz_bnok q9.1) q9.2
  by_cases b10 : a1 = 36
  · refine rz_lsj (v := 36) (tgt := 545) d_M_zeros_1 b10 rfl ?_
    refine rz_pure (pc' := 546) d_M_zeros_545 rfl ?_
    refine rz_iconst (v := 1) d_M_zeros_546 (by decide) ?_
    refine rz_callVi (t := [.int 1]) d_M_zeros_547 w_12_720 rfl rfl rfl (w.2.2.2.1 b10) (fun xq11 Sq11 q11 => ?_)
    exact rz_ireti d_M_zeros_550 rfl (rz_bnok q11.1) q11.2
  by_cases b12 : a1 = 40
  · refine rz_lsj (v := 40) (tgt := 795) d_M_zeros_1 b12 rfl ?_
    refine rz_pure (pc' := 796) d_M_zeros_795 rfl ?_
    refine rz_pure (pc' := 797) d_M_zeros_796 rfl ?_
    refine rz_callVi (t := []) d_M_zeros_797 w_12_729 rfl rfl rfl (w.2.2.2.2.1 b12) (fun xq13 Sq13 q13 => ?_)
    refine rz_sipush (v := 207) d_M_zeros_800 (by decide) ?_
    refine rz_iand d_M_zeros_803 ?_
    refine rz_pure (pc' := 805) d_M_zeros_804 rfl ?_
    refine rz_getiv (v := Sq13.2 116 79) d_M_zeros_805 f_12_638 rfl rfl rfl ?_
    refine rz_bipush (v := 48) d_M_zeros_808 (by decide) ?_
    refine rz_iand d_M_zeros_810 ?_
    refine rz_ior d_M_zeros_811 ?_
    refine rz_puti d_M_zeros_812 f_12_638 rfl rfl rfl ?_
    refine rz_pure (pc' := 816) d_M_zeros_815 rfl ?_
    refine rz_iconst (v := 4) d_M_zeros_816 (by decide) ?_
    refine rz_callVi (t := [.int 4]) d_M_zeros_817 w_12_704 rfl rfl rfl q13 (fun xq14 Sq14 q14 => ?_)
    exact rz_ireti d_M_zeros_820 rfl (rz_bnok q14.1) q14.2
  by_cases b15 : a1 = 44
  · refine rz_lsj (v := 44) (tgt := 551) d_M_zeros_1 b15 rfl ?_
    refine rz_pure (pc' := 552) d_M_zeros_551 rfl ?_
    refine rz_iconst (v := 4) d_M_zeros_552 (by decide) ?_
    refine rz_callVi (t := [.int 4]) d_M_zeros_553 w_12_720 rfl rfl rfl (w.2.2.2.2.2.1 b15) (fun xq16 Sq16 q16 => ?_)
    exact rz_ireti d_M_zeros_556 rfl (rz_bnok q16.1) q16.2
  by_cases b17 : a1 = 48
  · refine rz_lsj (v := 48) (tgt := 353) d_M_zeros_1 b17 rfl ?_
    refine rz_pure (pc' := 354) d_M_zeros_353 rfl ?_
    refine rz_pure (pc' := 355) d_M_zeros_354 rfl ?_
    refine rz_sipush (v := 128) d_M_zeros_355 (by decide) ?_
    refine rz_callVi (t := [.int 128]) d_M_zeros_358 w_12_666 rfl rfl rfl (w.2.2.2.2.2.2.1 b17) (fun xq18 Sq18 q18 => ?_)
    refine rz_callVv (t := [.int xq18]) d_M_zeros_361 w_12_716 rfl rfl rfl q18 (fun Sq19 q19 => ?_)
    refine rz_iconst (v := 1) d_M_zeros_364 (by decide) ?_
    exact rz_ireti d_M_zeros_365 rfl (by decide) q19
  by_cases b20 : a1 = 56
  · refine rz_lsj (v := 56) (tgt := 470) d_M_zeros_1 b20 rfl ?_
    refine rz_pure (pc' := 471) d_M_zeros_470 rfl ?_
    refine rz_iconst (v := 1) d_M_zeros_471 (by decide) ?_
    refine rz_iconst (v := 1) d_M_zeros_472 (by decide) ?_
    refine rz_callVv (t := [.int 1, .int 1]) d_M_zeros_473 w_12_656 rfl rfl rfl (w.2.2.2.2.2.2.2.1 b20) (fun Sq21 q21 => ?_)
    refine rz_pure (pc' := 477) d_M_zeros_476 rfl ?_
    refine rz_iconst (v := 2) d_M_zeros_477 (by decide) ?_
    refine rz_callVi (t := [.int 2]) d_M_zeros_478 w_12_704 rfl rfl rfl q21 (fun xq22 Sq22 q22 => ?_)
    exact rz_ireti d_M_zeros_481 rfl (rz_bnok q22.1) q22.2
  by_cases b23 : a1 = 72
  · refine rz_lsj (v := 72) (tgt := 821) d_M_zeros_1 b23 rfl ?_
    refine rz_pure (pc' := 822) d_M_zeros_821 rfl ?_
    refine rz_pure (pc' := 823) d_M_zeros_822 rfl ?_
    refine rz_getiv (v := S.2 116 75) d_M_zeros_823 f_12_626 rfl rfl rfl ?_
    refine rz_callVv (t := [.int (S.2 116 75)]) d_M_zeros_826 w_12_726 rfl rfl rfl (w.2.2.2.2.2.2.2.2.1 b23) (fun Sq24 q24 => ?_)
    refine rz_pure (pc' := 830) d_M_zeros_829 rfl ?_
    refine rz_iconst (v := 3) d_M_zeros_830 (by decide) ?_
    refine rz_callVi (t := [.int 3]) d_M_zeros_831 w_12_704 rfl rfl rfl q24 (fun xq25 Sq25 q25 => ?_)
    exact rz_ireti d_M_zeros_834 rfl (rz_bnok q25.1) q25.2
  by_cases b26 : a1 = 80
  · refine rz_lsj (v := 80) (tgt := 366) d_M_zeros_1 b26 rfl ?_
    refine rz_pure (pc' := 367) d_M_zeros_366 rfl ?_
    refine rz_pure (pc' := 368) d_M_zeros_367 rfl ?_
    refine rz_bipush (v := 64) d_M_zeros_368 (by decide) ?_
    refine rz_callVi (t := [.int 64]) d_M_zeros_370 w_12_666 rfl rfl rfl (w.2.2.2.2.2.2.2.2.2.1 b26) (fun xq27 Sq27 q27 => ?_)
    refine rz_ifne (tgt := 380) d_M_zeros_373 rfl (fun b28 => ?_) (fun b28 => ?_)
    · skip
      refine rz_iconst (v := 0) d_M_zeros_380 (by decide) ?_
      exact rz_pick (ks := []) (l := []) rfl rfl (by decide) rfl (q27.2 b28)
    · skip
      refine rz_iconst (v := 1) d_M_zeros_376 (by decide) ?_
      refine rz_pure (pc' := 381) d_M_zeros_377 rfl ?_
      exact rz_pick (ks := []) (l := []) rfl rfl (by decide) rfl (q27.1 b28)
  by_cases b29 : a1 = 88
  · refine rz_lsj (v := 88) (tgt := 482) d_M_zeros_1 b29 rfl ?_
    refine rz_pure (pc' := 483) d_M_zeros_482 rfl ?_
    refine rz_iconst (v := 4) d_M_zeros_483 (by decide) ?_
    refine rz_iconst (v := 0) d_M_zeros_484 (by decide) ?_
    refine rz_callVv (t := [.int 0, .int 4]) d_M_zeros_485 w_12_656 rfl rfl rfl (w.2.2.2.2.2.2.2.2.2.2.1 b29) (fun Sq30 q30 => ?_)
    refine rz_pure (pc' := 489) d_M_zeros_488 rfl ?_
    refine rz_iconst (v := 2) d_M_zeros_489 (by decide) ?_
    refine rz_callVi (t := [.int 2]) d_M_zeros_490 w_12_704 rfl rfl rfl q30 (fun xq31 Sq31 q31 => ?_)
    exact rz_ireti d_M_zeros_493 rfl (rz_bnok q31.1) q31.2
  by_cases b32 : a1 = 104
  · refine rz_lsj (v := 104) (tgt := 835) d_M_zeros_1 b32 rfl ?_
    refine rz_pure (pc' := 836) d_M_zeros_835 rfl ?_
    refine rz_pure (pc' := 837) d_M_zeros_836 rfl ?_
    refine rz_pure (pc' := 838) d_M_zeros_837 rfl ?_
    refine rz_callVi (t := []) d_M_zeros_838 w_12_729 rfl rfl rfl (w.2.2.2.2.2.2.2.2.2.2.2.1 b32) (fun xq33 Sq33 q33 => ?_)
    refine rz_callVi (t := [.int xq33]) d_M_zeros_841 w_12_669 rfl rfl rfl q33 (fun xq34 Sq34 q34 => ?_)
    refine rz_puti d_M_zeros_844 f_12_626 rfl rfl rfl ?_
    refine rz_pure (pc' := 848) d_M_zeros_847 rfl ?_
    refine rz_iconst (v := 4) d_M_zeros_848 (by decide) ?_
    refine rz_callVi (t := [.int 4]) d_M_zeros_849 w_12_704 rfl rfl rfl q34 (fun xq35 Sq35 q35 => ?_)
    exact rz_ireti d_M_zeros_852 rfl (rz_bnok q35.1) q35.2
  by_cases b36 : a1 = 112
  · refine rz_lsj (v := 112) (tgt := 386) d_M_zeros_1 b36 rfl ?_
    refine rz_pure (pc' := 387) d_M_zeros_386 rfl ?_
    refine rz_pure (pc' := 388) d_M_zeros_387 rfl ?_
    refine rz_bipush (v := 64) d_M_zeros_388 (by decide) ?_
    refine rz_callVi (t := [.int 64]) d_M_zeros_390 w_12_666 rfl rfl rfl (w.2.2.2.2.2.2.2.2.2.2.2.2.1 b36) (fun xq37 Sq37 q37 => ?_)
    refine rz_callVv (t := [.int xq37]) d_M_zeros_393 w_12_716 rfl rfl rfl q37 (fun Sq38 q38 => ?_)
    refine rz_iconst (v := 1) d_M_zeros_396 (by decide) ?_
    exact rz_ireti d_M_zeros_397 rfl (by decide) q38
  by_cases b39 : a1 = 120
  · refine rz_lsj (v := 120) (tgt := 494) d_M_zeros_1 b39 rfl ?_
    refine rz_pure (pc' := 495) d_M_zeros_494 rfl ?_
    refine rz_iconst (v := 4) d_M_zeros_495 (by decide) ?_
    refine rz_iconst (v := 1) d_M_zeros_496 (by decide) ?_
    refine rz_callVv (t := [.int 1, .int 4]) d_M_zeros_497 w_12_656 rfl rfl rfl (w.2.2.2.2.2.2.2.2.2.2.2.2.2.1 b39) (fun Sq40 q40 => ?_)
    refine rz_pure (pc' := 501) d_M_zeros_500 rfl ?_
    refine rz_iconst (v := 2) d_M_zeros_501 (by decide) ?_
    refine rz_callVi (t := [.int 2]) d_M_zeros_502 w_12_704 rfl rfl rfl q40 (fun xq41 Sq41 q41 => ?_)
    exact rz_ireti d_M_zeros_505 rfl (rz_bnok q41.1) q41.2
  by_cases b42 : a1 = 132
  · refine rz_lsj (v := 132) (tgt := 557) d_M_zeros_1 b42 rfl ?_
    refine rz_pure (pc' := 558) d_M_zeros_557 rfl ?_
    refine rz_pure (pc' := 559) d_M_zeros_558 rfl ?_
    refine rz_getiv (v := S.2 116 77) d_M_zeros_559 f_12_632 rfl rfl rfl ?_
    refine rz_iconst (v := 1) d_M_zeros_562 (by decide) ?_
    refine rz_callVi (t := [.int 1, .int (S.2 116 77)]) d_M_zeros_563 w_12_710 rfl rfl rfl (w.2.2.2.2.2.2.2.2.2.2.2.2.2.2.1 b42) (fun xq43 Sq43 q43 => ?_)
    exact rz_ireti d_M_zeros_566 rfl (rz_bnok q43.1) q43.2
  by_cases b44 : a1 = 136
  · refine rz_lsj (v := 136) (tgt := 682) d_M_zeros_1 b44 rfl ?_
    refine rz_pure (pc' := 683) d_M_zeros_682 rfl ?_
    refine rz_pure (pc' := 684) d_M_zeros_683 rfl ?_
    refine rz_pure (pc' := 685) d_M_zeros_684 rfl ?_
    refine rz_getiv (v := S.2 116 77) d_M_zeros_685 f_12_632 rfl rfl rfl ?_
    refine rz_iconst (v := 1) d_M_zeros_688 (by decide) ?_
    refine rz_isub d_M_zeros_689 ?_
    refine rz_callVi (t := [.int ((S.2 116 77) - 1)]) d_M_zeros_690 w_12_669 rfl rfl rfl (w.2.2.2.2.2.2.2.2.2.2.2.2.2.2.2.1 b44) (fun xq45 Sq45 q45 => ?_)
    refine rz_puti d_M_zeros_693 f_12_632 rfl rfl rfl ?_
    refine rz_pure (pc' := 697) d_M_zeros_696 rfl ?_
    refine rz_iconst (v := 2) d_M_zeros_697 (by decide) ?_
    refine rz_callVi (t := [.int 2]) d_M_zeros_698 w_12_704 rfl rfl rfl q45 (fun xq46 Sq46 q46 => ?_)
    exact rz_ireti d_M_zeros_701 rfl (rz_bnok q46.1) q46.2
  by_cases b47 : a1 = 140
  · refine rz_lsj (v := 140) (tgt := 577) d_M_zeros_1 b47 rfl ?_
    refine rz_pure (pc' := 578) d_M_zeros_577 rfl ?_
    refine rz_pure (pc' := 579) d_M_zeros_578 rfl ?_
    refine rz_getiv (v := S.2 116 77) d_M_zeros_579 f_12_632 rfl rfl rfl ?_
    refine rz_iconst (v := 4) d_M_zeros_582 (by decide) ?_
    refine rz_callVi (t := [.int 4, .int (S.2 116 77)]) d_M_zeros_583 w_12_710 rfl rfl rfl (w.2.2.2.2.2.2.2.2.2.2.2.2.2.2.2.2.1 b47) (fun xq48 Sq48 q48 => ?_)
    exact rz_ireti d_M_zeros_586 rfl (rz_bnok q48.1) q48.2
  by_cases b49 : a1 = 144
  · refine rz_lsj (v := 144) (tgt := 398) d_M_zeros_1 b49 rfl ?_
    refine rz_pure (pc' := 399) d_M_zeros_398 rfl ?_
    refine rz_pure (pc' := 400) d_M_zeros_399 rfl ?_
    refine rz_iconst (v := 1) d_M_zeros_400 (by decide) ?_
    refine rz_callVi (t := [.int 1]) d_M_zeros_401 w_12_666 rfl rfl rfl (w.2.2.2.2.2.2.2.2.2.2.2.2.2.2.2.2.2.1 b49) (fun xq50 Sq50 q50 => ?_)
    refine rz_ifne (tgt := 411) d_M_zeros_404 rfl (fun b51 => ?_) (fun b51 => ?_)
    · skip
      refine rz_iconst (v := 0) d_M_zeros_411 (by decide) ?_
      exact rz_pick (ks := []) (l := []) rfl rfl (by decide) rfl (q50.2 b51)
    · skip
      refine rz_iconst (v := 1) d_M_zeros_407 (by decide) ?_
      refine rz_pure (pc' := 412) d_M_zeros_408 rfl ?_
      exact rz_pick (ks := []) (l := []) rfl rfl (by decide) rfl (q50.1 b51)
  by_cases b52 : a1 = 148
  · refine rz_lsj (v := 148) (tgt := 567) d_M_zeros_1 b52 rfl ?_
    refine rz_pure (pc' := 568) d_M_zeros_567 rfl ?_
    refine rz_pure (pc' := 569) d_M_zeros_568 rfl ?_
    refine rz_getiv (v := S.2 116 77) d_M_zeros_569 f_12_632 rfl rfl rfl ?_
    refine rz_iconst (v := 2) d_M_zeros_572 (by decide) ?_
    refine rz_callVi (t := [.int 2, .int (S.2 116 77)]) d_M_zeros_573 w_12_710 rfl rfl rfl (w.2.2.2.2.2.2.2.2.2.2.2.2.2.2.2.2.2.2.1 b52) (fun xq53 Sq53 q53 => ?_)
    exact rz_ireti d_M_zeros_576 rfl (rz_bnok q53.1) q53.2
  by_cases b54 : a1 = 152
  · refine rz_lsj (v := 152) (tgt := 742) d_M_zeros_1 b54 rfl ?_
    refine rz_pure (pc' := 743) d_M_zeros_742 rfl ?_
    refine rz_pure (pc' := 744) d_M_zeros_743 rfl ?_
    refine rz_pure (pc' := 745) d_M_zeros_744 rfl ?_
    refine rz_getiv (v := S.2 116 77) d_M_zeros_745 f_12_632 rfl rfl rfl ?_
    refine rz_callVi (t := [.int (S.2 116 77)]) d_M_zeros_748 w_12_669 rfl rfl rfl (w.2.2.2.2.2.2.2.2.2.2.2.2.2.2.2.2.2.2.2.1 b54) (fun xq55 Sq55 q55 => ?_)
    refine rz_puti d_M_zeros_751 f_12_626 rfl rfl rfl ?_
    refine rz_pure (pc' := 755) d_M_zeros_754 rfl ?_
    refine rz_iconst (v := 2) d_M_zeros_755 (by decide) ?_
    refine rz_callVi (t := [.int 2]) d_M_zeros_756 w_12_704 rfl rfl rfl q55 (fun xq56 Sq56 q56 => ?_)
    exact rz_ireti d_M_zeros_759 rfl (rz_bnok q56.1) q56.2
  by_cases b57 : a1 = 160
  · refine rz_lsj (v := 160) (tgt := 587) d_M_zeros_1 b57 rfl ?_
    refine rz_pure (pc' := 588) d_M_zeros_587 rfl ?_
    refine rz_iconst (v := 1) d_M_zeros_588 (by decide) ?_
    refine rz_iconst (v := 0) d_M_zeros_589 (by decide) ?_
    refine rz_callVi (t := [.int 0, .int 1]) d_M_zeros_590 w_12_713 rfl rfl rfl (w.2.2.2.2.2.2.2.2.2.2.2.2.2.2.2.2.2.2.2.2.1 b57) (fun xq58 Sq58 q58 => ?_)
    exact rz_ireti d_M_zeros_593 rfl (rz_bnok q58.1) q58.2
  by_cases b59 : a1 = 164
  · refine rz_lsj (v := 164) (tgt := 594) d_M_zeros_1 b59 rfl ?_
    refine rz_pure (pc' := 595) d_M_zeros_594 rfl ?_
    refine rz_iconst (v := 1) d_M_zeros_595 (by decide) ?_
    refine rz_iconst (v := 1) d_M_zeros_596 (by decide) ?_
    refine rz_callVi (t := [.int 1, .int 1]) d_M_zeros_597 w_12_713 rfl rfl rfl (w.2.2.2.2.2.2.2.2.2.2.2.2.2.2.2.2.2.2.2.2.2.1 b59) (fun xq60 Sq60 q60 => ?_)
    exact rz_ireti d_M_zeros_600 rfl (rz_bnok q60.1) q60.2
  by_cases b61 : a1 = 168
  · refine rz_lsj (v := 168) (tgt := 760) d_M_zeros_1 b61 rfl ?_
    refine rz_pure (pc' := 761) d_M_zeros_760 rfl ?_
    refine rz_pure (pc' := 762) d_M_zeros_761 rfl ?_
    refine rz_pure (pc' := 763) d_M_zeros_762 rfl ?_
    refine rz_getiv (v := S.2 116 75) d_M_zeros_763 f_12_626 rfl rfl rfl ?_
    refine rz_callVi (t := [.int (S.2 116 75)]) d_M_zeros_766 w_12_669 rfl rfl rfl (w.2.2.2.2.2.2.2.2.2.2.2.2.2.2.2.2.2.2.2.2.2.2.1 b61) (fun xq62 Sq62 q62 => ?_)
    refine rz_puti d_M_zeros_769 f_12_632 rfl rfl rfl ?_
    refine rz_pure (pc' := 773) d_M_zeros_772 rfl ?_
    refine rz_iconst (v := 2) d_M_zeros_773 (by decide) ?_
    refine rz_callVi (t := [.int 2]) d_M_zeros_774 w_12_704 rfl rfl rfl q62 (fun xq63 Sq63 q63 => ?_)
    exact rz_ireti d_M_zeros_777 rfl (rz_bnok q63.1) q63.2
  by_cases b64 : a1 = 172
  · refine rz_lsj (v := 172) (tgt := 608) d_M_zeros_1 b64 rfl ?_
    refine rz_pure (pc' := 609) d_M_zeros_608 rfl ?_
    refine rz_iconst (v := 1) d_M_zeros_609 (by decide) ?_
    refine rz_iconst (v := 4) d_M_zeros_610 (by decide) ?_
    refine rz_callVi (t := [.int 4, .int 1]) d_M_zeros_611 w_12_713 rfl rfl rfl (w.2.2.2.2.2.2.2.2.2.2.2.2.2.2.2.2.2.2.2.2.2.2.2.1 b64) (fun xq65 Sq65 q65 => ?_)
    exact rz_ireti d_M_zeros_614 rfl (rz_bnok q65.1) q65.2
  by_cases b66 : a1 = 176
  · refine rz_lsj (v := 176) (tgt := 417) d_M_zeros_1 b66 rfl ?_
    refine rz_pure (pc' := 418) d_M_zeros_417 rfl ?_
    refine rz_pure (pc' := 419) d_M_zeros_418 rfl ?_
    refine rz_iconst (v := 1) d_M_zeros_419 (by decide) ?_
    refine rz_callVi (t := [.int 1]) d_M_zeros_420 w_12_666 rfl rfl rfl (w.2.2.2.2.2.2.2.2.2.2.2.2.2.2.2.2.2.2.2.2.2.2.2.2.1 b66) (fun xq67 Sq67 q67 => ?_)
    refine rz_callVv (t := [.int xq67]) d_M_zeros_423 w_12_716 rfl rfl rfl q67 (fun Sq68 q68 => ?_)
    refine rz_iconst (v := 1) d_M_zeros_426 (by decide) ?_
    exact rz_ireti d_M_zeros_427 rfl (by decide) q68
  by_cases b69 : a1 = 180
  · refine rz_lsj (v := 180) (tgt := 601) d_M_zeros_1 b69 rfl ?_
    refine rz_pure (pc' := 602) d_M_zeros_601 rfl ?_
    refine rz_iconst (v := 1) d_M_zeros_602 (by decide) ?_
    refine rz_iconst (v := 2) d_M_zeros_603 (by decide) ?_
    refine rz_callVi (t := [.int 2, .int 1]) d_M_zeros_604 w_12_713 rfl rfl rfl (w.2.2.2.2.2.2.2.2.2.2.2.2.2.2.2.2.2.2.2.2.2.2.2.2.2.1 b69) (fun xq70 Sq70 q70 => ?_)
    exact rz_ireti d_M_zeros_607 rfl (rz_bnok q70.1) q70.2
  by_cases b71 : a1 = 184
  · refine rz_lsj (v := 184) (tgt := 506) d_M_zeros_1 b71 rfl ?_
    refine rz_pure (pc' := 507) d_M_zeros_506 rfl ?_
    refine rz_bipush (v := 64) d_M_zeros_507 (by decide) ?_
    refine rz_iconst (v := 0) d_M_zeros_509 (by decide) ?_
    refine rz_callVv (t := [.int 0, .int 64]) d_M_zeros_510 w_12_656 rfl rfl rfl (w.2.2.2.2.2.2.2.2.2.2.2.2.2.2.2.2.2.2.2.2.2.2.2.2.2.2.1 b71) (fun Sq72 q72 => ?_)
    refine rz_pure (pc' := 514) d_M_zeros_513 rfl ?_
    refine rz_iconst (v := 2) d_M_zeros_514 (by decide) ?_
    refine rz_callVi (t := [.int 2]) d_M_zeros_515 w_12_704 rfl rfl rfl q72 (fun xq73 Sq73 q73 => ?_)
    exact rz_ireti d_M_zeros_518 rfl (rz_bnok q73.1) q73.2
  by_cases b74 : a1 = 188
  · refine rz_lsj (v := 188) (tgt := 615) d_M_zeros_1 b74 rfl ?_
    refine rz_pure (pc' := 616) d_M_zeros_615 rfl ?_
    refine rz_iconst (v := 1) d_M_zeros_616 (by decide) ?_
    refine rz_iconst (v := 5) d_M_zeros_617 (by decide) ?_
    refine rz_callVi (t := [.int 5, .int 1]) d_M_zeros_618 w_12_713 rfl rfl rfl (w.2.2.2.2.2.2.2.2.2.2.2.2.2.2.2.2.2.2.2.2.2.2.2.2.2.2.2.1 b74) (fun xq75 Sq75 q75 => ?_)
    exact rz_ireti d_M_zeros_621 rfl (rz_bnok q75.1) q75.2
  by_cases b76 : a1 = 192
  · refine rz_lsj (v := 192) (tgt := 622) d_M_zeros_1 b76 rfl ?_
    refine rz_pure (pc' := 623) d_M_zeros_622 rfl ?_
    refine rz_pure (pc' := 624) d_M_zeros_623 rfl ?_
    refine rz_getiv (v := S.2 116 77) d_M_zeros_624 f_12_632 rfl rfl rfl ?_
    refine rz_iconst (v := 0) d_M_zeros_627 (by decide) ?_
    refine rz_callVi (t := [.int 0, .int (S.2 116 77)]) d_M_zeros_628 w_12_723 rfl rfl rfl (w.2.2.2.2.2.2.2.2.2.2.2.2.2.2.2.2.2.2.2.2.2.2.2.2.2.2.2.2.1 b76) (fun xq77 Sq77 q77 => ?_)
    exact rz_ireti d_M_zeros_631 rfl (rz_bnok q77.1) q77.2
  by_cases b78 : a1 = 196
  · refine rz_lsj (v := 196) (tgt := 632) d_M_zeros_1 b78 rfl ?_
    refine rz_pure (pc' := 633) d_M_zeros_632 rfl ?_
    refine rz_pure (pc' := 634) d_M_zeros_633 rfl ?_
    refine rz_getiv (v := S.2 116 77) d_M_zeros_634 f_12_632 rfl rfl rfl ?_
    refine rz_iconst (v := 1) d_M_zeros_637 (by decide) ?_
    refine rz_callVi (t := [.int 1, .int (S.2 116 77)]) d_M_zeros_638 w_12_723 rfl rfl rfl (w.2.2.2.2.2.2.2.2.2.2.2.2.2.2.2.2.2.2.2.2.2.2.2.2.2.2.2.2.2.1 b78) (fun xq79 Sq79 q79 => ?_)
    exact rz_ireti d_M_zeros_641 rfl (rz_bnok q79.1) q79.2
  by_cases b80 : a1 = 200
  · refine rz_lsj (v := 200) (tgt := 702) d_M_zeros_1 b80 rfl ?_
    refine rz_pure (pc' := 703) d_M_zeros_702 rfl ?_
    refine rz_pure (pc' := 704) d_M_zeros_703 rfl ?_
    refine rz_pure (pc' := 705) d_M_zeros_704 rfl ?_
    refine rz_getiv (v := S.2 116 77) d_M_zeros_705 f_12_632 rfl rfl rfl ?_
    refine rz_iconst (v := 1) d_M_zeros_708 (by decide) ?_
    refine rz_iadd d_M_zeros_709 ?_
    refine rz_callVi (t := [.int ((S.2 116 77) + 1)]) d_M_zeros_710 w_12_669 rfl rfl rfl (w.2.2.2.2.2.2.2.2.2.2.2.2.2.2.2.2.2.2.2.2.2.2.2.2.2.2.2.2.2.2.1 b80) (fun xq81 Sq81 q81 => ?_)
    refine rz_puti d_M_zeros_713 f_12_632 rfl rfl rfl ?_
    refine rz_pure (pc' := 717) d_M_zeros_716 rfl ?_
    refine rz_iconst (v := 2) d_M_zeros_717 (by decide) ?_
    refine rz_callVi (t := [.int 2]) d_M_zeros_718 w_12_704 rfl rfl rfl q81 (fun xq82 Sq82 q82 => ?_)
    exact rz_ireti d_M_zeros_721 rfl (rz_bnok q82.1) q82.2
  by_cases b83 : a1 = 204
  · refine rz_lsj (v := 204) (tgt := 642) d_M_zeros_1 b83 rfl ?_
    refine rz_pure (pc' := 643) d_M_zeros_642 rfl ?_
    refine rz_pure (pc' := 644) d_M_zeros_643 rfl ?_
    refine rz_getiv (v := S.2 116 77) d_M_zeros_644 f_12_632 rfl rfl rfl ?_
    refine rz_iconst (v := 4) d_M_zeros_647 (by decide) ?_
    refine rz_callVi (t := [.int 4, .int (S.2 116 77)]) d_M_zeros_648 w_12_723 rfl rfl rfl (w.2.2.2.2.2.2.2.2.2.2.2.2.2.2.2.2.2.2.2.2.2.2.2.2.2.2.2.2.2.2.2.1 b83) (fun xq84 Sq84 q84 => ?_)
    exact rz_ireti d_M_zeros_651 rfl (rz_bnok q84.1) q84.2
  by_cases b85 : a1 = 208
  · refine rz_lsj (v := 208) (tgt := 428) d_M_zeros_1 b85 rfl ?_
    refine rz_pure (pc' := 429) d_M_zeros_428 rfl ?_
    refine rz_pure (pc' := 430) d_M_zeros_429 rfl ?_
    refine rz_iconst (v := 2) d_M_zeros_430 (by decide) ?_
    refine rz_callVi (t := [.int 2]) d_M_zeros_431 w_12_666 rfl rfl rfl (w.2.2.2.2.2.2.2.2.2.2.2.2.2.2.2.2.2.2.2.2.2.2.2.2.2.2.2.2.2.2.2.2.1 b85) (fun xq86 Sq86 q86 => ?_)
    refine rz_ifne (tgt := 441) d_M_zeros_434 rfl (fun b87 => ?_) (fun b87 => ?_)
    · skip
      refine rz_iconst (v := 0) d_M_zeros_441 (by decide) ?_
      exact rz_pick (ks := []) (l := []) rfl rfl (by decide) rfl (q86.2 b87)
    · skip
      refine rz_iconst (v := 1) d_M_zeros_437 (by decide) ?_
      refine rz_pure (pc' := 442) d_M_zeros_438 rfl ?_
      exact rz_pick (ks := []) (l := []) rfl rfl (by decide) rfl (q86.1 b87)
  by_cases b88 : a1 = 216
  · refine rz_lsj (v := 216) (tgt := 519) d_M_zeros_1 b88 rfl ?_
    refine rz_pure (pc' := 520) d_M_zeros_519 rfl ?_
    refine rz_bipush (v := 8) d_M_zeros_520 (by decide) ?_
    refine rz_iconst (v := 0) d_M_zeros_522 (by decide) ?_
    refine rz_callVv (t := [.int 0, .int 8]) d_M_zeros_523 w_12_656 rfl rfl rfl (w.2.2.2.2.2.2.2.2.2.2.2.2.2.2.2.2.2.2.2.2.2.2.2.2.2.2.2.2.2.2.2.2.2.1 b88) (fun Sq89 q89 => ?_)
    refine rz_pure (pc' := 527) d_M_zeros_526 rfl ?_
    refine rz_iconst (v := 2) d_M_zeros_527 (by decide) ?_
    refine rz_callVi (t := [.int 2]) d_M_zeros_528 w_12_704 rfl rfl rfl q89 (fun xq90 Sq90 q90 => ?_)
    exact rz_ireti d_M_zeros_531 rfl (rz_bnok q90.1) q90.2
  by_cases b91 : a1 = 224
  · refine rz_lsj (v := 224) (tgt := 652) d_M_zeros_1 b91 rfl ?_
    refine rz_pure (pc' := 653) d_M_zeros_652 rfl ?_
    refine rz_pure (pc' := 654) d_M_zeros_653 rfl ?_
    refine rz_getiv (v := S.2 116 76) d_M_zeros_654 f_12_629 rfl rfl rfl ?_
    refine rz_iconst (v := 0) d_M_zeros_657 (by decide) ?_
    refine rz_callVi (t := [.int 0, .int (S.2 116 76)]) d_M_zeros_658 w_12_723 rfl rfl rfl (w.2.2.2.2.2.2.2.2.2.2.2.2.2.2.2.2.2.2.2.2.2.2.2.2.2.2.2.2.2.2.2.2.2.2.1 b91) (fun xq92 Sq92 q92 => ?_)
    exact rz_ireti d_M_zeros_661 rfl (rz_bnok q92.1) q92.2
  by_cases b93 : a1 = 228
  · refine rz_lsj (v := 228) (tgt := 662) d_M_zeros_1 b93 rfl ?_
    refine rz_pure (pc' := 663) d_M_zeros_662 rfl ?_
    refine rz_pure (pc' := 664) d_M_zeros_663 rfl ?_
    refine rz_getiv (v := S.2 116 76) d_M_zeros_664 f_12_629 rfl rfl rfl ?_
    refine rz_iconst (v := 1) d_M_zeros_667 (by decide) ?_
    refine rz_callVi (t := [.int 1, .int (S.2 116 76)]) d_M_zeros_668 w_12_723 rfl rfl rfl (w.2.2.2.2.2.2.2.2.2.2.2.2.2.2.2.2.2.2.2.2.2.2.2.2.2.2.2.2.2.2.2.2.2.2.2.1 b93) (fun xq94 Sq94 q94 => ?_)
    exact rz_ireti d_M_zeros_671 rfl (rz_bnok q94.1) q94.2
  by_cases b95 : a1 = 232
  · refine rz_lsj (v := 232) (tgt := 722) d_M_zeros_1 b95 rfl ?_
    refine rz_pure (pc' := 723) d_M_zeros_722 rfl ?_
    refine rz_pure (pc' := 724) d_M_zeros_723 rfl ?_
    refine rz_pure (pc' := 725) d_M_zeros_724 rfl ?_
    refine rz_getiv (v := S.2 116 76) d_M_zeros_725 f_12_629 rfl rfl rfl ?_
    refine rz_iconst (v := 1) d_M_zeros_728 (by decide) ?_
    refine rz_iadd d_M_zeros_729 ?_
    refine rz_callVi (t := [.int ((S.2 116 76) + 1)]) d_M_zeros_730 w_12_669 rfl rfl rfl (w.2.2.2.2.2.2.2.2.2.2.2.2.2.2.2.2.2.2.2.2.2.2.2.2.2.2.2.2.2.2.2.2.2.2.2.2.1 b95) (fun xq96 Sq96 q96 => ?_)
    refine rz_puti d_M_zeros_733 f_12_629 rfl rfl rfl ?_
    refine rz_pure (pc' := 737) d_M_zeros_736 rfl ?_
    refine rz_iconst (v := 2) d_M_zeros_737 (by decide) ?_
    refine rz_callVi (t := [.int 2]) d_M_zeros_738 w_12_704 rfl rfl rfl q96 (fun xq97 Sq97 q97 => ?_)
    exact rz_ireti d_M_zeros_741 rfl (rz_bnok q97.1) q97.2
  by_cases b98 : a1 = 236
  · refine rz_lsj (v := 236) (tgt := 672) d_M_zeros_1 b98 rfl ?_
    refine rz_pure (pc' := 673) d_M_zeros_672 rfl ?_
    refine rz_pure (pc' := 674) d_M_zeros_673 rfl ?_
    refine rz_getiv (v := S.2 116 76) d_M_zeros_674 f_12_629 rfl rfl rfl ?_
    refine rz_iconst (v := 4) d_M_zeros_677 (by decide) ?_
    refine rz_callVi (t := [.int 4, .int (S.2 116 76)]) d_M_zeros_678 w_12_723 rfl rfl rfl (w.2.2.2.2.2.2.2.2.2.2.2.2.2.2.2.2.2.2.2.2.2.2.2.2.2.2.2.2.2.2.2.2.2.2.2.2.2.1 b98) (fun xq99 Sq99 q99 => ?_)
    exact rz_ireti d_M_zeros_681 rfl (rz_bnok q99.1) q99.2
  by_cases b100 : a1 = 240
  · refine rz_lsj (v := 240) (tgt := 447) d_M_zeros_1 b100 rfl ?_
    refine rz_pure (pc' := 448) d_M_zeros_447 rfl ?_
    refine rz_pure (pc' := 449) d_M_zeros_448 rfl ?_
    refine rz_iconst (v := 2) d_M_zeros_449 (by decide) ?_
    refine rz_callVi (t := [.int 2]) d_M_zeros_450 w_12_666 rfl rfl rfl (w.2.2.2.2.2.2.2.2.2.2.2.2.2.2.2.2.2.2.2.2.2.2.2.2.2.2.2.2.2.2.2.2.2.2.2.2.2.2.1 b100) (fun xq101 Sq101 q101 => ?_)
    refine rz_callVv (t := [.int xq101]) d_M_zeros_453 w_12_716 rfl rfl rfl q101 (fun Sq102 q102 => ?_)
    refine rz_iconst (v := 1) d_M_zeros_456 (by decide) ?_
    exact rz_ireti d_M_zeros_457 rfl (by decide) q102
  by_cases b103 : a1 = 248
  · refine rz_lsj (v := 248) (tgt := 532) d_M_zeros_1 b103 rfl ?_
    refine rz_pure (pc' := 533) d_M_zeros_532 rfl ?_
    refine rz_bipush (v := 8) d_M_zeros_533 (by decide) ?_
    refine rz_iconst (v := 1) d_M_zeros_535 (by decide) ?_
    refine rz_callVv (t := [.int 1, .int 8]) d_M_zeros_536 w_12_656 rfl rfl rfl (w.2.2.2.2.2.2.2.2.2.2.2.2.2.2.2.2.2.2.2.2.2.2.2.2.2.2.2.2.2.2.2.2.2.2.2.2.2.2.2.1 b103) (fun Sq104 q104 => ?_)
    refine rz_pure (pc' := 540) d_M_zeros_539 rfl ?_
    refine rz_iconst (v := 2) d_M_zeros_540 (by decide) ?_
    refine rz_callVi (t := [.int 2]) d_M_zeros_541 w_12_704 rfl rfl rfl q104 (fun xq105 Sq105 q105 => ?_)
    exact rz_ireti d_M_zeros_544 rfl (rz_bnok q105.1) q105.2
  refine rz_lsd (tgt := 853) d_M_zeros_1 rfl ⟨b1, b4, b7, b10, b12, b15, b17, b20, b23, b26, b29, b32, b36, b39, b42, b44, b47, b49, b52, b54, b57, b59, b61, b64, b66, b69, b71, b74, b76, b78, b80, b83, b85, b88, b91, b93, b95, b98, b100, b103, trivial⟩ rfl ?_
  refine rz_pure (pc' := 854) d_M_zeros_853 rfl ?_
  refine rz_pure (pc' := 855) d_M_zeros_854 rfl ?_
  refine rz_callVi (t := [.int a1]) d_M_zeros_855 w_12_732 rfl rfl rfl (w.2.2.2.2.2.2.2.2.2.2.2.2.2.2.2.2.2.2.2.2.2.2.2.2.2.2.2.2.2.2.2.2.2.2.2.2.2.2.2.2 b1 b4 b7 b10 b12 b15 b17 b20 b23 b26 b29 b32 b36 b39 b42 b44 b47 b49 b52 b54 b57 b59 b61 b64 b66 b69 b71 b74 b76 b78 b80 b83 b85 b88 b91 b93 b95 b98 b100 b103) (fun xq106 Sq106 q106 => ?_)
  exact rz_ireti d_M_zeros_858 rfl (rz_bnok q106.1) q106.2
theorem p_M_zeros_348 {S : rz_S} {K : Int32 → rz_S → Prop} {s0 : Int32} (w : rz_ev mM_branch [.ref 116, .int s0] S (rz_v (fun Sq1 => K 1 Sq1))) : rz mM_zeros 348 [] [.int s0, .ref 116] S (rz_i K) := by
  refine rz_callVv (t := [.int s0]) d_M_zeros_348 w_12_716 rfl rfl rfl w (fun Sq1 q1 => ?_)
  refine rz_iconst (v := 1) d_M_zeros_351 (by decide) ?_
  exact rz_ireti d_M_zeros_352 rfl (by decide) q1
theorem p_M_zeros_381 {S : rz_S} {K : Int32 → rz_S → Prop} {s0 : Int32} (w : rz_ev mM_branch [.ref 116, .int s0] S (rz_v (fun Sq1 => K 1 Sq1))) : rz mM_zeros 381 [] [.int s0, .ref 116] S (rz_i K) := by
  refine rz_callVv (t := [.int s0]) d_M_zeros_381 w_12_716 rfl rfl rfl w (fun Sq1 q1 => ?_)
  refine rz_iconst (v := 1) d_M_zeros_384 (by decide) ?_
  exact rz_ireti d_M_zeros_385 rfl (by decide) q1
theorem p_M_zeros_412 {S : rz_S} {K : Int32 → rz_S → Prop} {s0 : Int32} (w : rz_ev mM_branch [.ref 116, .int s0] S (rz_v (fun Sq1 => K 1 Sq1))) : rz mM_zeros 412 [] [.int s0, .ref 116] S (rz_i K) := by
  refine rz_callVv (t := [.int s0]) d_M_zeros_412 w_12_716 rfl rfl rfl w (fun Sq1 q1 => ?_)
  refine rz_iconst (v := 1) d_M_zeros_415 (by decide) ?_
  exact rz_ireti d_M_zeros_416 rfl (by decide) q1
theorem p_M_zeros_442 {S : rz_S} {K : Int32 → rz_S → Prop} {s0 : Int32} (w : rz_ev mM_branch [.ref 116, .int s0] S (rz_v (fun Sq1 => K 1 Sq1))) : rz mM_zeros 442 [] [.int s0, .ref 116] S (rz_i K) := by
  refine rz_callVv (t := [.int s0]) d_M_zeros_442 w_12_716 rfl rfl rfl w (fun Sq1 q1 => ?_)
  refine rz_iconst (v := 1) d_M_zeros_445 (by decide) ?_
  exact rz_ireti d_M_zeros_446 rfl (by decide) q1
theorem d_M_jumps_0 : decode (rm_code mM_jumps) 0 = .ok (.iload_n 1, 1) := by decide +kernel
theorem d_M_jumps_1 : decode (rm_code mM_jumps) 1 = .ok (.lookupswitch (225) #[((32), (108)), ((64), (180)), ((76), (51)), ((96), (153)), ((108), (65))], 51) := by decide +kernel
theorem d_M_jumps_52 : decode (rm_code mM_jumps) 52 = .ok (.aload_n 0, 1) := by decide +kernel
theorem d_M_jumps_53 : decode (rm_code mM_jumps) 53 = .ok (.aload_n 0, 1) := by decide +kernel
theorem d_M_jumps_54 : decode (rm_code mM_jumps) 54 = .ok (.invokevirtual 663, 3) := by decide +kernel
theorem d_M_jumps_57 : decode (rm_code mM_jumps) 57 = .ok (.putfield 644, 3) := by decide +kernel
theorem d_M_jumps_60 : decode (rm_code mM_jumps) 60 = .ok (.aload_n 0, 1) := by decide +kernel
theorem d_M_jumps_61 : decode (rm_code mM_jumps) 61 = .ok (.iconst 3, 1) := by decide +kernel
theorem d_M_jumps_62 : decode (rm_code mM_jumps) 62 = .ok (.invokevirtual 704, 3) := by decide +kernel
theorem d_M_jumps_65 : decode (rm_code mM_jumps) 65 = .ok (.ireturn, 1) := by decide +kernel
theorem d_M_jumps_66 : decode (rm_code mM_jumps) 66 = .ok (.aload_n 0, 1) := by decide +kernel
theorem d_M_jumps_67 : decode (rm_code mM_jumps) 67 = .ok (.invokevirtual 663, 3) := by decide +kernel
theorem d_M_jumps_70 : decode (rm_code mM_jumps) 70 = .ok (.istore_n 2, 1) := by decide +kernel
theorem d_M_jumps_71 : decode (rm_code mM_jumps) 71 = .ok (.iload_n 2, 1) := by decide +kernel
theorem d_M_jumps_72 : decode (rm_code mM_jumps) 72 = .ok (.sipush (-256), 3) := by decide +kernel
theorem d_M_jumps_75 : decode (rm_code mM_jumps) 75 = .ok (.iand, 1) := by decide +kernel
theorem d_M_jumps_76 : decode (rm_code mM_jumps) 76 = .ok (.iload_n 2, 1) := by decide +kernel
theorem d_M_jumps_77 : decode (rm_code mM_jumps) 77 = .ok (.iconst 1, 1) := by decide +kernel
theorem d_M_jumps_78 : decode (rm_code mM_jumps) 78 = .ok (.iadd, 1) := by decide +kernel
theorem d_M_jumps_79 : decode (rm_code mM_jumps) 79 = .ok (.sipush (255), 3) := by decide +kernel
theorem d_M_jumps_82 : decode (rm_code mM_jumps) 82 = .ok (.iand, 1) := by decide +kernel
theorem d_M_jumps_83 : decode (rm_code mM_jumps) 83 = .ok (.ior, 1) := by decide +kernel
theorem d_M_jumps_84 : decode (rm_code mM_jumps) 84 = .ok (.istore_n 3, 1) := by decide +kernel
theorem d_M_jumps_85 : decode (rm_code mM_jumps) 85 = .ok (.aload_n 0, 1) := by decide +kernel
theorem d_M_jumps_86 : decode (rm_code mM_jumps) 86 = .ok (.aload_n 0, 1) := by decide +kernel
theorem d_M_jumps_87 : decode (rm_code mM_jumps) 87 = .ok (.iload_n 2, 1) := by decide +kernel
theorem d_M_jumps_88 : decode (rm_code mM_jumps) 88 = .ok (.invokevirtual 620, 3) := by decide +kernel
theorem d_M_jumps_91 : decode (rm_code mM_jumps) 91 = .ok (.aload_n 0, 1) := by decide +kernel
theorem d_M_jumps_92 : decode (rm_code mM_jumps) 92 = .ok (.iload_n 3, 1) := by decide +kernel
theorem d_M_jumps_93 : decode (rm_code mM_jumps) 93 = .ok (.invokevirtual 620, 3) := by decide +kernel
theorem d_M_jumps_96 : decode (rm_code mM_jumps) 96 = .ok (.bipush (8), 2) := by decide +kernel
theorem d_M_jumps_98 : decode (rm_code mM_jumps) 98 = .ok (.ishl, 1) := by decide +kernel
theorem d_M_jumps_99 : decode (rm_code mM_jumps) 99 = .ok (.ior, 1) := by decide +kernel
theorem d_M_jumps_100 : decode (rm_code mM_jumps) 100 = .ok (.putfield 644, 3) := by decide +kernel
theorem d_M_jumps_103 : decode (rm_code mM_jumps) 103 = .ok (.aload_n 0, 1) := by decide +kernel
theorem d_M_jumps_104 : decode (rm_code mM_jumps) 104 = .ok (.iconst 5, 1) := by decide +kernel
theorem d_M_jumps_105 : decode (rm_code mM_jumps) 105 = .ok (.invokevirtual 704, 3) := by decide +kernel
theorem d_M_jumps_108 : decode (rm_code mM_jumps) 108 = .ok (.ireturn, 1) := by decide +kernel
theorem d_M_jumps_109 : decode (rm_code mM_jumps) 109 = .ok (.aload_n 0, 1) := by decide +kernel
theorem d_M_jumps_110 : decode (rm_code mM_jumps) 110 = .ok (.invokevirtual 663, 3) := by decide +kernel
theorem d_M_jumps_113 : decode (rm_code mM_jumps) 113 = .ok (.istore_n 2, 1) := by decide +kernel
theorem d_M_jumps_114 : decode (rm_code mM_jumps) 114 = .ok (.aload_n 0, 1) := by decide +kernel
theorem d_M_jumps_115 : decode (rm_code mM_jumps) 115 = .ok (.getfield 644, 3) := by decide +kernel
theorem d_M_jumps_118 : decode (rm_code mM_jumps) 118 = .ok (.iconst 1, 1) := by decide +kernel
theorem d_M_jumps_119 : decode (rm_code mM_jumps) 119 = .ok (.isub, 1) := by decide +kernel
theorem d_M_jumps_120 : decode (rm_code mM_jumps) 120 = .ok (.sipush (2047), 3) := by decide +kernel
theorem d_M_jumps_123 : decode (rm_code mM_jumps) 123 = .ok (.iand, 1) := by decide +kernel
theorem d_M_jumps_124 : decode (rm_code mM_jumps) 124 = .ok (.istore_n 3, 1) := by decide +kernel
theorem d_M_jumps_125 : decode (rm_code mM_jumps) 125 = .ok (.aload_n 0, 1) := by decide +kernel
theorem d_M_jumps_126 : decode (rm_code mM_jumps) 126 = .ok (.iload_n 3, 1) := by decide +kernel
theorem d_M_jumps_127 : decode (rm_code mM_jumps) 127 = .ok (.bipush (8), 2) := by decide +kernel
theorem d_M_jumps_129 : decode (rm_code mM_jumps) 129 = .ok (.ishr, 1) := by decide +kernel
theorem d_M_jumps_130 : decode (rm_code mM_jumps) 130 = .ok (.invokevirtual 726, 3) := by decide +kernel
theorem d_M_jumps_133 : decode (rm_code mM_jumps) 133 = .ok (.aload_n 0, 1) := by decide +kernel
theorem d_M_jumps_134 : decode (rm_code mM_jumps) 134 = .ok (.iload_n 3, 1) := by decide +kernel
theorem d_M_jumps_135 : decode (rm_code mM_jumps) 135 = .ok (.sipush (255), 3) := by decide +kernel
theorem d_M_jumps_138 : decode (rm_code mM_jumps) 138 = .ok (.iand, 1) := by decide +kernel
theorem d_M_jumps_139 : decode (rm_code mM_jumps) 139 = .ok (.invokevirtual 726, 3) := by decide +kernel
theorem d_M_jumps_142 : decode (rm_code mM_jumps) 142 = .ok (.aload_n 0, 1) := by decide +kernel
theorem d_M_jumps_143 : decode (rm_code mM_jumps) 143 = .ok (.iload_n 2, 1) := by decide +kernel
theorem d_M_jumps_144 : decode (rm_code mM_jumps) 144 = .ok (.putfield 644, 3) := by decide +kernel
theorem d_M_jumps_147 : decode (rm_code mM_jumps) 147 = .ok (.aload_n 0, 1) := by decide +kernel
theorem d_M_jumps_148 : decode (rm_code mM_jumps) 148 = .ok (.bipush (6), 2) := by decide +kernel
theorem d_M_jumps_150 : decode (rm_code mM_jumps) 150 = .ok (.invokevirtual 704, 3) := by decide +kernel
theorem d_M_jumps_153 : decode (rm_code mM_jumps) 153 = .ok (.ireturn, 1) := by decide +kernel
theorem d_M_jumps_154 : decode (rm_code mM_jumps) 154 = .ok (.aload_n 0, 1) := by decide +kernel
theorem d_M_jumps_155 : decode (rm_code mM_jumps) 155 = .ok (.invokevirtual 729, 3) := by decide +kernel
theorem d_M_jumps_158 : decode (rm_code mM_jumps) 158 = .ok (.istore_n 2, 1) := by decide +kernel
theorem d_M_jumps_159 : decode (rm_code mM_jumps) 159 = .ok (.aload_n 0, 1) := by decide +kernel
theorem d_M_jumps_160 : decode (rm_code mM_jumps) 160 = .ok (.iload_n 2, 1) := by decide +kernel
theorem d_M_jumps_161 : decode (rm_code mM_jumps) 161 = .ok (.aload_n 0, 1) := by decide +kernel
theorem d_M_jumps_162 : decode (rm_code mM_jumps) 162 = .ok (.invokevirtual 729, 3) := by decide +kernel
theorem d_M_jumps_165 : decode (rm_code mM_jumps) 165 = .ok (.bipush (8), 2) := by decide +kernel
theorem d_M_jumps_167 : decode (rm_code mM_jumps) 167 = .ok (.ishl, 1) := by decide +kernel
theorem d_M_jumps_168 : decode (rm_code mM_jumps) 168 = .ok (.ior, 1) := by decide +kernel
theorem d_M_jumps_169 : decode (rm_code mM_jumps) 169 = .ok (.iconst 1, 1) := by decide +kernel
theorem d_M_jumps_170 : decode (rm_code mM_jumps) 170 = .ok (.iadd, 1) := by decide +kernel
theorem d_M_jumps_171 : decode (rm_code mM_jumps) 171 = .ok (.putfield 644, 3) := by decide +kernel
theorem d_M_jumps_174 : decode (rm_code mM_jumps) 174 = .ok (.aload_n 0, 1) := by decide +kernel
theorem d_M_jumps_175 : decode (rm_code mM_jumps) 175 = .ok (.bipush (6), 2) := by decide +kernel
theorem d_M_jumps_177 : decode (rm_code mM_jumps) 177 = .ok (.invokevirtual 704, 3) := by decide +kernel
theorem d_M_jumps_180 : decode (rm_code mM_jumps) 180 = .ok (.ireturn, 1) := by decide +kernel
theorem d_M_jumps_181 : decode (rm_code mM_jumps) 181 = .ok (.aload_n 0, 1) := by decide +kernel
theorem d_M_jumps_182 : decode (rm_code mM_jumps) 182 = .ok (.aload_n 0, 1) := by decide +kernel
theorem d_M_jumps_183 : decode (rm_code mM_jumps) 183 = .ok (.invokevirtual 729, 3) := by decide +kernel
theorem d_M_jumps_186 : decode (rm_code mM_jumps) 186 = .ok (.sipush (207), 3) := by decide +kernel
theorem d_M_jumps_189 : decode (rm_code mM_jumps) 189 = .ok (.iand, 1) := by decide +kernel
theorem d_M_jumps_190 : decode (rm_code mM_jumps) 190 = .ok (.aload_n 0, 1) := by decide +kernel
theorem d_M_jumps_191 : decode (rm_code mM_jumps) 191 = .ok (.getfield 638, 3) := by decide +kernel
theorem d_M_jumps_194 : decode (rm_code mM_jumps) 194 = .ok (.bipush (48), 2) := by decide +kernel
theorem d_M_jumps_196 : decode (rm_code mM_jumps) 196 = .ok (.iand, 1) := by decide +kernel
theorem d_M_jumps_197 : decode (rm_code mM_jumps) 197 = .ok (.ior, 1) := by decide +kernel
theorem d_M_jumps_198 : decode (rm_code mM_jumps) 198 = .ok (.putfield 638, 3) := by decide +kernel
theorem d_M_jumps_201 : decode (rm_code mM_jumps) 201 = .ok (.aload_n 0, 1) := by decide +kernel
theorem d_M_jumps_202 : decode (rm_code mM_jumps) 202 = .ok (.invokevirtual 729, 3) := by decide +kernel
theorem d_M_jumps_205 : decode (rm_code mM_jumps) 205 = .ok (.istore_n 2, 1) := by decide +kernel
theorem d_M_jumps_206 : decode (rm_code mM_jumps) 206 = .ok (.aload_n 0, 1) := by decide +kernel
theorem d_M_jumps_207 : decode (rm_code mM_jumps) 207 = .ok (.iload_n 2, 1) := by decide +kernel
theorem d_M_jumps_208 : decode (rm_code mM_jumps) 208 = .ok (.aload_n 0, 1) := by decide +kernel
theorem d_M_jumps_209 : decode (rm_code mM_jumps) 209 = .ok (.invokevirtual 729, 3) := by decide +kernel
theorem d_M_jumps_212 : decode (rm_code mM_jumps) 212 = .ok (.bipush (8), 2) := by decide +kernel
theorem d_M_jumps_214 : decode (rm_code mM_jumps) 214 = .ok (.ishl, 1) := by decide +kernel
theorem d_M_jumps_215 : decode (rm_code mM_jumps) 215 = .ok (.ior, 1) := by decide +kernel
theorem d_M_jumps_216 : decode (rm_code mM_jumps) 216 = .ok (.putfield 644, 3) := by decide +kernel
theorem d_M_jumps_219 : decode (rm_code mM_jumps) 219 = .ok (.aload_n 0, 1) := by decide +kernel
theorem d_M_jumps_220 : decode (rm_code mM_jumps) 220 = .ok (.bipush (6), 2) := by decide +kernel
theorem d_M_jumps_222 : decode (rm_code mM_jumps) 222 = .ok (.invokevirtual 704, 3) := by decide +kernel
theorem d_M_jumps_225 : decode (rm_code mM_jumps) 225 = .ok (.ireturn, 1) := by decide +kernel
theorem d_M_jumps_226 : decode (rm_code mM_jumps) 226 = .ok (.iconst 0, 1) := by decide +kernel
theorem d_M_jumps_227 : decode (rm_code mM_jumps) 227 = .ok (.ireturn, 1) := by decide +kernel
theorem p_M_jumps_0 {S : rz_S} {K : Int32 → rz_S → Prop} {a1 : Int32} (w : ((a1 = 32 → rz_ev mM_wordNext [.ref 116] S (rz_i (fun xq2 Sq2 => rz_ev mM_push [.ref 116, .int ((((Sq2.2 116 80) - 1) &&& 2047) >>> ((8 : Int32) &&& 31))] Sq2 (rz_v (fun Sq3 => rz_ev mM_push [.ref 116, .int ((((Sq2.2 116 80) - 1) &&& 2047) &&& 255)] Sq3 (rz_v (fun Sq4 => rz_ev mM_takes2 [.ref 116, .int 6] (rz_uI Sq4 116 80 xq2) (rz_i (fun xq5 Sq5 => (xq5 = 0 ∨ xq5 = 1) ∧ K xq5 Sq5))))))))) ∧ (a1 = 64 → rz_ev mM_pull [.ref 116] S (rz_i (fun xq7 Sq7 => rz_ev mM_pull [.ref 116] (rz_uI Sq7 116 79 ((xq7 &&& 207) ||| ((Sq7.2 116 79) &&& 48))) (rz_i (fun xq8 Sq8 => rz_ev mM_pull [.ref 116] Sq8 (rz_i (fun xq9 Sq9 => rz_ev mM_takes2 [.ref 116, .int 6] (rz_uI Sq9 116 80 (xq8 ||| (xq9 <<< ((8 : Int32) &&& 31)))) (rz_i (fun xq10 Sq10 => (xq10 = 0 ∨ xq10 = 1) ∧ K xq10 Sq10))))))))) ∧ (a1 = 76 → rz_ev mM_wordNext [.ref 116] S (rz_i (fun xq12 Sq12 => rz_ev mM_takes2 [.ref 116, .int 3] (rz_uI Sq12 116 80 xq12) (rz_i (fun xq13 Sq13 => (xq13 = 0 ∨ xq13 = 1) ∧ K xq13 Sq13))))) ∧ (a1 = 96 → rz_ev mM_pull [.ref 116] S (rz_i (fun xq15 Sq15 => rz_ev mM_pull [.ref 116] Sq15 (rz_i (fun xq16 Sq16 => rz_ev mM_takes2 [.ref 116, .int 6] (rz_uI Sq16 116 80 ((xq15 ||| (xq16 <<< ((8 : Int32) &&& 31))) + 1)) (rz_i (fun xq17 Sq17 => (xq17 = 0 ∨ xq17 = 1) ∧ K xq17 Sq17))))))) ∧ (a1 = 108 → rz_ev mM_wordNext [.ref 116] S (rz_i (fun xq19 Sq19 => rz_ev mM_get [.ref 116, .int xq19] Sq19 (rz_i (fun xq20 Sq20 => rz_ev mM_get [.ref 116, .int ((xq19 &&& (-256)) ||| ((xq19 + 1) &&& 255))] Sq20 (rz_i (fun xq21 Sq21 => rz_ev mM_takes2 [.ref 116, .int 5] (rz_uI Sq21 116 80 (xq20 ||| (xq21 <<< ((8 : Int32) &&& 31)))) (rz_i (fun xq22 Sq22 => (xq22 = 0 ∨ xq22 = 1) ∧ K xq22 Sq22))))))))) ∧ (¬ a1 = 32 → ¬ a1 = 64 → ¬ a1 = 76 → ¬ a1 = 96 → ¬ a1 = 108 → K 0 S))) : rz mM_jumps 0 [(0, .ref 116), (1, .int a1)] [] S (rz_i K) := by
  refine rz_pure (pc' := 1) d_M_jumps_0 rfl ?_
  by_cases b1 : a1 = 32
  · refine rz_lsj (v := 32) (tgt := 109) d_M_jumps_1 b1 rfl ?_
    refine rz_pure (pc' := 110) d_M_jumps_109 rfl ?_
    refine rz_callVi (t := []) d_M_jumps_110 w_12_663 rfl rfl rfl (w.1 b1) (fun xq2 Sq2 q2 => ?_)
    refine rz_pure (pc' := 114) (l' := [(2, .int xq2), (0, .ref 116), (1, .int a1)]) d_M_jumps_113 rfl ?_
    refine rz_pure (pc' := 115) d_M_jumps_114 rfl ?_
    refine rz_getiv (v := Sq2.2 116 80) d_M_jumps_115 f_12_644 rfl rfl rfl ?_
    refine rz_iconst (v := 1) d_M_jumps_118 (by decide) ?_
    refine rz_isub d_M_jumps_119 ?_
    refine rz_sipush (v := 2047) d_M_jumps_120 (by decide) ?_
    refine rz_iand d_M_jumps_123 ?_
    refine rz_pure (pc' := 125) (l' := [(3, .int (((Sq2.2 116 80) - 1) &&& 2047)), (2, .int xq2), (0, .ref 116), (1, .int a1)]) d_M_jumps_124 rfl ?_
    refine rz_pure (pc' := 126) d_M_jumps_125 rfl ?_
    refine rz_pure (pc' := 127) d_M_jumps_126 rfl ?_
    refine rz_bipush (v := 8) d_M_jumps_127 (by decide) ?_
    refine rz_ishr d_M_jumps_129 ?_
    refine rz_callVv (t := [.int ((((Sq2.2 116 80) - 1) &&& 2047) >>> ((8 : Int32) &&& 31))]) d_M_jumps_130 w_12_726 rfl rfl rfl q2 (fun Sq3 q3 => ?_)
    refine rz_pure (pc' := 134) d_M_jumps_133 rfl ?_
    refine rz_pure (pc' := 135) d_M_jumps_134 rfl ?_
    refine rz_sipush (v := 255) d_M_jumps_135 (by decide) ?_
    refine rz_iand d_M_jumps_138 ?_
    refine rz_callVv (t := [.int ((((Sq2.2 116 80) - 1) &&& 2047) &&& 255)]) d_M_jumps_139 w_12_726 rfl rfl rfl q3 (fun Sq4 q4 => ?_)
    refine rz_pure (pc' := 143) d_M_jumps_142 rfl ?_
    refine rz_pure (pc' := 144) d_M_jumps_143 rfl ?_
    refine rz_puti d_M_jumps_144 f_12_644 rfl rfl rfl ?_
    refine rz_pure (pc' := 148) d_M_jumps_147 rfl ?_
    refine rz_bipush (v := 6) d_M_jumps_148 (by decide) ?_
    refine rz_callVi (t := [.int 6]) d_M_jumps_150 w_12_704 rfl rfl rfl q4 (fun xq5 Sq5 q5 => ?_)
    exact rz_ireti d_M_jumps_153 rfl (rz_bnok q5.1) q5.2
  by_cases b6 : a1 = 64
  · refine rz_lsj (v := 64) (tgt := 181) d_M_jumps_1 b6 rfl ?_
    refine rz_pure (pc' := 182) d_M_jumps_181 rfl ?_
    refine rz_pure (pc' := 183) d_M_jumps_182 rfl ?_
    refine rz_callVi (t := []) d_M_jumps_183 w_12_729 rfl rfl rfl (w.2.1 b6) (fun xq7 Sq7 q7 => ?_)
    refine rz_sipush (v := 207) d_M_jumps_186 (by decide) ?_
    refine rz_iand d_M_jumps_189 ?_
    refine rz_pure (pc' := 191) d_M_jumps_190 rfl ?_
    refine rz_getiv (v := Sq7.2 116 79) d_M_jumps_191 f_12_638 rfl rfl rfl ?_
    refine rz_bipush (v := 48) d_M_jumps_194 (by decide) ?_
    refine rz_iand d_M_jumps_196 ?_
    refine rz_ior d_M_jumps_197 ?_
    refine rz_puti d_M_jumps_198 f_12_638 rfl rfl rfl ?_
    refine rz_pure (pc' := 202) d_M_jumps_201 rfl ?_
    refine rz_callVi (t := []) d_M_jumps_202 w_12_729 rfl rfl rfl q7 (fun xq8 Sq8 q8 => ?_)
    refine rz_pure (pc' := 206) (l' := [(2, .int xq8), (0, .ref 116), (1, .int a1)]) d_M_jumps_205 rfl ?_
    refine rz_pure (pc' := 207) d_M_jumps_206 rfl ?_
    refine rz_pure (pc' := 208) d_M_jumps_207 rfl ?_
    refine rz_pure (pc' := 209) d_M_jumps_208 rfl ?_
    refine rz_callVi (t := []) d_M_jumps_209 w_12_729 rfl rfl rfl q8 (fun xq9 Sq9 q9 => ?_)
    refine rz_bipush (v := 8) d_M_jumps_212 (by decide) ?_
    refine rz_ishl d_M_jumps_214 ?_
    refine rz_ior d_M_jumps_215 ?_
    refine rz_puti d_M_jumps_216 f_12_644 rfl rfl rfl ?_
    refine rz_pure (pc' := 220) d_M_jumps_219 rfl ?_
    refine rz_bipush (v := 6) d_M_jumps_220 (by decide) ?_
    refine rz_callVi (t := [.int 6]) d_M_jumps_222 w_12_704 rfl rfl rfl q9 (fun xq10 Sq10 q10 => ?_)
    exact rz_ireti d_M_jumps_225 rfl (rz_bnok q10.1) q10.2
  by_cases b11 : a1 = 76
  · refine rz_lsj (v := 76) (tgt := 52) d_M_jumps_1 b11 rfl ?_
    refine rz_pure (pc' := 53) d_M_jumps_52 rfl ?_
    refine rz_pure (pc' := 54) d_M_jumps_53 rfl ?_
    refine rz_callVi (t := []) d_M_jumps_54 w_12_663 rfl rfl rfl (w.2.2.1 b11) (fun xq12 Sq12 q12 => ?_)
    refine rz_puti d_M_jumps_57 f_12_644 rfl rfl rfl ?_
    refine rz_pure (pc' := 61) d_M_jumps_60 rfl ?_
    refine rz_iconst (v := 3) d_M_jumps_61 (by decide) ?_
    refine rz_callVi (t := [.int 3]) d_M_jumps_62 w_12_704 rfl rfl rfl q12 (fun xq13 Sq13 q13 => ?_)
    exact rz_ireti d_M_jumps_65 rfl (rz_bnok q13.1) q13.2
  by_cases b14 : a1 = 96
  · refine rz_lsj (v := 96) (tgt := 154) d_M_jumps_1 b14 rfl ?_
    refine rz_pure (pc' := 155) d_M_jumps_154 rfl ?_
    refine rz_callVi (t := []) d_M_jumps_155 w_12_729 rfl rfl rfl (w.2.2.2.1 b14) (fun xq15 Sq15 q15 => ?_)
    refine rz_pure (pc' := 159) (l' := [(2, .int xq15), (0, .ref 116), (1, .int a1)]) d_M_jumps_158 rfl ?_
    refine rz_pure (pc' := 160) d_M_jumps_159 rfl ?_
    refine rz_pure (pc' := 161) d_M_jumps_160 rfl ?_
    refine rz_pure (pc' := 162) d_M_jumps_161 rfl ?_
    refine rz_callVi (t := []) d_M_jumps_162 w_12_729 rfl rfl rfl q15 (fun xq16 Sq16 q16 => ?_)
    refine rz_bipush (v := 8) d_M_jumps_165 (by decide) ?_
    refine rz_ishl d_M_jumps_167 ?_
    refine rz_ior d_M_jumps_168 ?_
    refine rz_iconst (v := 1) d_M_jumps_169 (by decide) ?_
    refine rz_iadd d_M_jumps_170 ?_
    refine rz_puti d_M_jumps_171 f_12_644 rfl rfl rfl ?_
    refine rz_pure (pc' := 175) d_M_jumps_174 rfl ?_
    refine rz_bipush (v := 6) d_M_jumps_175 (by decide) ?_
    refine rz_callVi (t := [.int 6]) d_M_jumps_177 w_12_704 rfl rfl rfl q16 (fun xq17 Sq17 q17 => ?_)
    exact rz_ireti d_M_jumps_180 rfl (rz_bnok q17.1) q17.2
  by_cases b18 : a1 = 108
  · refine rz_lsj (v := 108) (tgt := 66) d_M_jumps_1 b18 rfl ?_
    refine rz_pure (pc' := 67) d_M_jumps_66 rfl ?_
    refine rz_callVi (t := []) d_M_jumps_67 w_12_663 rfl rfl rfl (w.2.2.2.2.1 b18) (fun xq19 Sq19 q19 => ?_)
    refine rz_pure (pc' := 71) (l' := [(2, .int xq19), (0, .ref 116), (1, .int a1)]) d_M_jumps_70 rfl ?_
    refine rz_pure (pc' := 72) d_M_jumps_71 rfl ?_
    refine rz_sipush (v := -256) d_M_jumps_72 (by decide) ?_
    refine rz_iand d_M_jumps_75 ?_
    refine rz_pure (pc' := 77) d_M_jumps_76 rfl ?_
    refine rz_iconst (v := 1) d_M_jumps_77 (by decide) ?_
    refine rz_iadd d_M_jumps_78 ?_
    refine rz_sipush (v := 255) d_M_jumps_79 (by decide) ?_
    refine rz_iand d_M_jumps_82 ?_
    refine rz_ior d_M_jumps_83 ?_
    refine rz_pure (pc' := 85) (l' := [(3, .int ((xq19 &&& (-256)) ||| ((xq19 + 1) &&& 255))), (2, .int xq19), (0, .ref 116), (1, .int a1)]) d_M_jumps_84 rfl ?_
    refine rz_pure (pc' := 86) d_M_jumps_85 rfl ?_
    refine rz_pure (pc' := 87) d_M_jumps_86 rfl ?_
    refine rz_pure (pc' := 88) d_M_jumps_87 rfl ?_
    refine rz_callVi (t := [.int xq19]) d_M_jumps_88 w_12_620 rfl rfl rfl q19 (fun xq20 Sq20 q20 => ?_)
    refine rz_pure (pc' := 92) d_M_jumps_91 rfl ?_
    refine rz_pure (pc' := 93) d_M_jumps_92 rfl ?_
    refine rz_callVi (t := [.int ((xq19 &&& (-256)) ||| ((xq19 + 1) &&& 255))]) d_M_jumps_93 w_12_620 rfl rfl rfl q20 (fun xq21 Sq21 q21 => ?_)
    refine rz_bipush (v := 8) d_M_jumps_96 (by decide) ?_
    refine rz_ishl d_M_jumps_98 ?_
    refine rz_ior d_M_jumps_99 ?_
    refine rz_puti d_M_jumps_100 f_12_644 rfl rfl rfl ?_
    refine rz_pure (pc' := 104) d_M_jumps_103 rfl ?_
    refine rz_iconst (v := 5) d_M_jumps_104 (by decide) ?_
    refine rz_callVi (t := [.int 5]) d_M_jumps_105 w_12_704 rfl rfl rfl q21 (fun xq22 Sq22 q22 => ?_)
    exact rz_ireti d_M_jumps_108 rfl (rz_bnok q22.1) q22.2
  refine rz_lsd (tgt := 226) d_M_jumps_1 rfl ⟨b1, b6, b11, b14, b18, trivial⟩ rfl ?_
  refine rz_iconst (v := 0) d_M_jumps_226 (by decide) ?_
  exact rz_ireti d_M_jumps_227 rfl (by decide) (w.2.2.2.2.2 b1 b6 b11 b14 b18)
theorem p_M_look_0 {S : rz_S} {K : Int32 → rz_S → Prop} {a1 : Int32} (w : ((a1.toInt < 0 ∨ 14 < a1.toInt → K (-1) S) ∧ (a1 = 0 → K (S.2 116 56) S) ∧ (a1 = 1 → K (S.2 116 57) S) ∧ (a1 = 2 → K (S.2 116 58) S) ∧ (a1 = 3 → K (S.2 116 68) S) ∧ (a1 = 4 → K (S.2 116 64) S) ∧ (a1 = 5 → K (S.2 116 2) S) ∧ (a1 = 6 → K (S.2 116 3) S) ∧ (a1 = 7 → rz_ev mM_openMany [.ref 116] S (rz_i (fun xq1 Sq1 => K xq1 Sq1))) ∧ (a1 = 8 → K (S.2 116 75) S) ∧ (a1 = 9 → K (S.2 116 76) S) ∧ (a1 = 10 → K (S.2 116 77) S) ∧ (a1 = 11 → K (S.2 116 78) S) ∧ (a1 = 12 → K (S.2 116 79) S) ∧ (a1 = 13 → K (S.2 116 82) S) ∧ (a1 = 14 → K (S.2 116 81) S))) : rz mM_look 0 [(0, .ref 116), (1, .int a1)] [] S (rz_i K) := by
  refine rz_pure (pc' := 1) d_M_look_0 rfl ?_
  refine rz_tsw (n := 15) (lo := 0) (tgt := 151) d_M_look_1 rfl rfl (fun b0 => ?_) (fun j hj hx => ?_)
  · skip
    refine rz_iconst (v := -1) d_M_look_151 (by decide) ?_
    exact rz_ireti d_M_look_152 rfl rfl (w.1 b0)
  · match j, hj with
    | 0, _ =>
      replace hx := hx.trans (show Int32.ofInt ((0 : Int) + ((0 : Nat) : Int)) = 0 from by decide)
      refine rz_tsj (tgt := 76) d_M_look_1 hx rfl ?_
      refine rz_pure (pc' := 77) d_M_look_76 rfl ?_
      refine rz_getiv (v := S.2 116 56) d_M_look_77 f_12_227 rfl rfl rfl ?_
      exact rz_ireti d_M_look_80 rfl rfl (w.2.1 hx)
    | 1, _ =>
      replace hx := hx.trans (show Int32.ofInt ((0 : Int) + ((1 : Nat) : Int)) = 1 from by decide)
      refine rz_tsj (tgt := 81) d_M_look_1 hx rfl ?_
      refine rz_pure (pc' := 82) d_M_look_81 rfl ?_
      refine rz_getiv (v := S.2 116 57) d_M_look_82 f_12_230 rfl rfl rfl ?_
      exact rz_ireti d_M_look_85 rfl rfl (w.2.2.1 hx)
    | 2, _ =>
      replace hx := hx.trans (show Int32.ofInt ((0 : Int) + ((2 : Nat) : Int)) = 2 from by decide)
      refine rz_tsj (tgt := 86) d_M_look_1 hx rfl ?_
      refine rz_pure (pc' := 87) d_M_look_86 rfl ?_
      refine rz_getiv (v := S.2 116 58) d_M_look_87 f_12_233 rfl rfl rfl ?_
      exact rz_ireti d_M_look_90 rfl rfl (w.2.2.2.1 hx)
    | 3, _ =>
      replace hx := hx.trans (show Int32.ofInt ((0 : Int) + ((3 : Nat) : Int)) = 3 from by decide)
      refine rz_tsj (tgt := 91) d_M_look_1 hx rfl ?_
      refine rz_pure (pc' := 92) d_M_look_91 rfl ?_
      refine rz_getiv (v := S.2 116 68) d_M_look_92 f_12_374 rfl rfl rfl ?_
      exact rz_ireti d_M_look_95 rfl rfl (w.2.2.2.2.1 hx)
    | 4, _ =>
      replace hx := hx.trans (show Int32.ofInt ((0 : Int) + ((4 : Nat) : Int)) = 4 from by decide)
      refine rz_tsj (tgt := 96) d_M_look_1 hx rfl ?_
      refine rz_pure (pc' := 97) d_M_look_96 rfl ?_
      refine rz_getiv (v := S.2 116 64) d_M_look_97 f_12_254 rfl rfl rfl ?_
      exact rz_ireti d_M_look_100 rfl rfl (w.2.2.2.2.2.1 hx)
    | 5, _ =>
      replace hx := hx.trans (show Int32.ofInt ((0 : Int) + ((5 : Nat) : Int)) = 5 from by decide)
      refine rz_tsj (tgt := 101) d_M_look_1 hx rfl ?_
      refine rz_pure (pc' := 102) d_M_look_101 rfl ?_
      refine rz_getiv (v := S.2 116 2) d_M_look_102 f_12_90 rfl rfl rfl ?_
      exact rz_ireti d_M_look_105 rfl rfl (w.2.2.2.2.2.2.1 hx)
    | 6, _ =>
      replace hx := hx.trans (show Int32.ofInt ((0 : Int) + ((6 : Nat) : Int)) = 6 from by decide)
      refine rz_tsj (tgt := 106) d_M_look_1 hx rfl ?_
      refine rz_pure (pc' := 107) d_M_look_106 rfl ?_
      refine rz_getiv (v := S.2 116 3) d_M_look_107 f_12_93 rfl rfl rfl ?_
      exact rz_ireti d_M_look_110 rfl rfl (w.2.2.2.2.2.2.2.1 hx)
    | 7, _ =>
      replace hx := hx.trans (show Int32.ofInt ((0 : Int) + ((7 : Nat) : Int)) = 7 from by decide)
      refine rz_tsj (tgt := 111) d_M_look_1 hx rfl ?_
      refine rz_pure (pc' := 112) d_M_look_111 rfl ?_
      refine rz_callVi (t := []) d_M_look_112 w_12_281 rfl rfl rfl (w.2.2.2.2.2.2.2.2.1 hx) (fun xq1 Sq1 q1 => ?_)
      exact rz_ireti d_M_look_115 rfl rfl q1
    | 8, _ =>
      replace hx := hx.trans (show Int32.ofInt ((0 : Int) + ((8 : Nat) : Int)) = 8 from by decide)
      refine rz_tsj (tgt := 116) d_M_look_1 hx rfl ?_
      refine rz_pure (pc' := 117) d_M_look_116 rfl ?_
      refine rz_getiv (v := S.2 116 75) d_M_look_117 f_12_626 rfl rfl rfl ?_
      exact rz_ireti d_M_look_120 rfl rfl (w.2.2.2.2.2.2.2.2.2.1 hx)
    | 9, _ =>
      replace hx := hx.trans (show Int32.ofInt ((0 : Int) + ((9 : Nat) : Int)) = 9 from by decide)
      refine rz_tsj (tgt := 121) d_M_look_1 hx rfl ?_
      refine rz_pure (pc' := 122) d_M_look_121 rfl ?_
      refine rz_getiv (v := S.2 116 76) d_M_look_122 f_12_629 rfl rfl rfl ?_
      exact rz_ireti d_M_look_125 rfl rfl (w.2.2.2.2.2.2.2.2.2.2.1 hx)
    | 10, _ =>
      replace hx := hx.trans (show Int32.ofInt ((0 : Int) + ((10 : Nat) : Int)) = 10 from by decide)
      refine rz_tsj (tgt := 126) d_M_look_1 hx rfl ?_
      refine rz_pure (pc' := 127) d_M_look_126 rfl ?_
      refine rz_getiv (v := S.2 116 77) d_M_look_127 f_12_632 rfl rfl rfl ?_
      exact rz_ireti d_M_look_130 rfl rfl (w.2.2.2.2.2.2.2.2.2.2.2.1 hx)
    | 11, _ =>
      replace hx := hx.trans (show Int32.ofInt ((0 : Int) + ((11 : Nat) : Int)) = 11 from by decide)
      refine rz_tsj (tgt := 131) d_M_look_1 hx rfl ?_
      refine rz_pure (pc' := 132) d_M_look_131 rfl ?_
      refine rz_getiv (v := S.2 116 78) d_M_look_132 f_12_635 rfl rfl rfl ?_
      exact rz_ireti d_M_look_135 rfl rfl (w.2.2.2.2.2.2.2.2.2.2.2.2.1 hx)
    | 12, _ =>
      replace hx := hx.trans (show Int32.ofInt ((0 : Int) + ((12 : Nat) : Int)) = 12 from by decide)
      refine rz_tsj (tgt := 136) d_M_look_1 hx rfl ?_
      refine rz_pure (pc' := 137) d_M_look_136 rfl ?_
      refine rz_getiv (v := S.2 116 79) d_M_look_137 f_12_638 rfl rfl rfl ?_
      exact rz_ireti d_M_look_140 rfl rfl (w.2.2.2.2.2.2.2.2.2.2.2.2.2.1 hx)
    | 13, _ =>
      replace hx := hx.trans (show Int32.ofInt ((0 : Int) + ((13 : Nat) : Int)) = 13 from by decide)
      refine rz_tsj (tgt := 141) d_M_look_1 hx rfl ?_
      refine rz_pure (pc' := 142) d_M_look_141 rfl ?_
      refine rz_getiv (v := S.2 116 82) d_M_look_142 f_12_647 rfl rfl rfl ?_
      exact rz_ireti d_M_look_145 rfl rfl (w.2.2.2.2.2.2.2.2.2.2.2.2.2.2.1 hx)
    | 14, _ =>
      replace hx := hx.trans (show Int32.ofInt ((0 : Int) + ((14 : Nat) : Int)) = 14 from by decide)
      refine rz_tsj (tgt := 146) d_M_look_1 hx rfl ?_
      refine rz_pure (pc' := 147) d_M_look_146 rfl ?_
      refine rz_getiv (v := S.2 116 81) d_M_look_147 f_12_641 rfl rfl rfl ?_
      exact rz_ireti d_M_look_150 rfl rfl (w.2.2.2.2.2.2.2.2.2.2.2.2.2.2.2 hx)
    | j + 15, h => exact absurd h (by omega)
theorem d_M_isBit_0 : decode (rm_code mM_isBit) 0 = .ok (.iload_n 0, 1) := by decide +kernel
theorem d_M_isBit_1 : decode (rm_code mM_isBit) 1 = .ok (.iconst 1, 1) := by decide +kernel
theorem d_M_isBit_2 : decode (rm_code mM_isBit) 2 = .ok (.if_icmp .lt (28), 3) := by decide +kernel
theorem d_M_isBit_5 : decode (rm_code mM_isBit) 5 = .ok (.iload_n 0, 1) := by decide +kernel
theorem d_M_isBit_6 : decode (rm_code mM_isBit) 6 = .ok (.bipush (12), 2) := by decide +kernel
theorem d_M_isBit_8 : decode (rm_code mM_isBit) 8 = .ok (.if_icmp .gt (22), 3) := by decide +kernel
theorem d_M_isBit_11 : decode (rm_code mM_isBit) 11 = .ok (.iload_n 1, 1) := by decide +kernel
theorem d_M_isBit_12 : decode (rm_code mM_isBit) 12 = .ok (.ifCond .lt (18), 3) := by decide +kernel
theorem d_M_isBit_15 : decode (rm_code mM_isBit) 15 = .ok (.iload_n 1, 1) := by decide +kernel
theorem d_M_isBit_16 : decode (rm_code mM_isBit) 16 = .ok (.bipush (8), 2) := by decide +kernel
theorem d_M_isBit_18 : decode (rm_code mM_isBit) 18 = .ok (.iload_n 0, 1) := by decide +kernel
theorem d_M_isBit_19 : decode (rm_code mM_isBit) 19 = .ok (.invokestatic 21, 3) := by decide +kernel
theorem d_M_isBit_22 : decode (rm_code mM_isBit) 22 = .ok (.imul, 1) := by decide +kernel
theorem d_M_isBit_23 : decode (rm_code mM_isBit) 23 = .ok (.if_icmp .ge (7), 3) := by decide +kernel
theorem d_M_isBit_26 : decode (rm_code mM_isBit) 26 = .ok (.iconst 1, 1) := by decide +kernel
theorem d_M_isBit_27 : decode (rm_code mM_isBit) 27 = .ok (.goto (4), 3) := by decide +kernel
theorem d_M_isBit_30 : decode (rm_code mM_isBit) 30 = .ok (.iconst 0, 1) := by decide +kernel
theorem d_M_isBit_31 : decode (rm_code mM_isBit) 31 = .ok (.ireturn, 1) := by decide +kernel
theorem p_M_isBit_0 {S : rz_S} {K : Int32 → rz_S → Prop} {a0 : Int32} {a1 : Int32} (w : ((a0 < 1 → K 0 S) ∧ (¬ a0 < 1 → ((12 < a0 → K 0 S) ∧ (¬ 12 < a0 → ((a1 < 0 → K 0 S) ∧ (¬ a1 < 0 → rz_ev mM_bytesOf [.int a0] S (rz_i (fun xq4 Sq4 => ((8 * xq4 ≤ a1 → K 0 Sq4) ∧ (¬ 8 * xq4 ≤ a1 → K 1 Sq4))))))))))) : rz mM_isBit 0 [(0, .int a0), (1, .int a1)] [] S (rz_i K) := by
  refine rz_pure (pc' := 1) d_M_isBit_0 rfl ?_
  refine rz_iconst (v := 1) d_M_isBit_1 (by decide) ?_
  refine rz_icmplt (tgt := 30) d_M_isBit_2 rfl (fun b1 => ?_) (fun b1 => ?_)
  · skip
    refine rz_iconst (v := 0) d_M_isBit_30 (by decide) ?_
    exact rz_ireti d_M_isBit_31 rfl (by decide) (w.1 b1)
  · skip
    refine rz_pure (pc' := 6) d_M_isBit_5 rfl ?_
    refine rz_bipush (v := 12) d_M_isBit_6 (by decide) ?_
    refine rz_icmpgt (tgt := 30) d_M_isBit_8 rfl (fun b2 => ?_) (fun b2 => ?_)
    · skip
      refine rz_iconst (v := 0) d_M_isBit_30 (by decide) ?_
      exact rz_ireti d_M_isBit_31 rfl (by decide) ((w.2 b1).1 b2)
    · skip
      refine rz_pure (pc' := 12) d_M_isBit_11 rfl ?_
      refine rz_iflt (tgt := 30) d_M_isBit_12 rfl (fun b3 => ?_) (fun b3 => ?_)
      · skip
        refine rz_iconst (v := 0) d_M_isBit_30 (by decide) ?_
        exact rz_ireti d_M_isBit_31 rfl (by decide) (((w.2 b1).2 b2).1 b3)
      · skip
        refine rz_pure (pc' := 16) d_M_isBit_15 rfl ?_
        refine rz_bipush (v := 8) d_M_isBit_16 (by decide) ?_
        refine rz_pure (pc' := 19) d_M_isBit_18 rfl ?_
        refine rz_callSi (t := [.int a0]) d_M_isBit_19 rfl w_12_21 rfl rfl (((w.2 b1).2 b2).2 b3) (fun xq4 Sq4 q4 => ?_)
        refine rz_imul d_M_isBit_22 ?_
        refine rz_icmpge (tgt := 30) d_M_isBit_23 rfl (fun b5 => ?_) (fun b5 => ?_)
        · skip
          refine rz_iconst (v := 0) d_M_isBit_30 (by decide) ?_
          exact rz_ireti d_M_isBit_31 rfl (by decide) (q4.1 b5)
        · skip
          refine rz_iconst (v := 1) d_M_isBit_26 (by decide) ?_
          refine rz_pure (pc' := 31) d_M_isBit_27 rfl ?_
          exact rz_ireti d_M_isBit_31 rfl (by decide) (q4.2 b5)
theorem d_M_bits_0 : decode (rm_code mM_bits) 0 = .ok (.iload_n 1, 1) := by decide +kernel
theorem d_M_bits_1 : decode (rm_code mM_bits) 1 = .ok (.iload_n 2, 1) := by decide +kernel
theorem d_M_bits_2 : decode (rm_code mM_bits) 2 = .ok (.invokestatic 735, 3) := by decide +kernel
theorem d_M_bits_5 : decode (rm_code mM_bits) 5 = .ok (.ifCond .ne (5), 3) := by decide +kernel
theorem d_M_bits_8 : decode (rm_code mM_bits) 8 = .ok (.iconst 0, 1) := by decide +kernel
theorem d_M_bits_9 : decode (rm_code mM_bits) 9 = .ok (.ireturn, 1) := by decide +kernel
theorem d_M_bits_10 : decode (rm_code mM_bits) 10 = .ok (.bipush (8), 2) := by decide +kernel
theorem d_M_bits_12 : decode (rm_code mM_bits) 12 = .ok (.iload_n 1, 1) := by decide +kernel
theorem d_M_bits_13 : decode (rm_code mM_bits) 13 = .ok (.invokestatic 21, 3) := by decide +kernel
theorem d_M_bits_16 : decode (rm_code mM_bits) 16 = .ok (.imul, 1) := by decide +kernel
theorem d_M_bits_17 : decode (rm_code mM_bits) 17 = .ok (.istore_n 3, 1) := by decide +kernel
theorem d_M_bits_18 : decode (rm_code mM_bits) 18 = .ok (.iconst 0, 1) := by decide +kernel
theorem d_M_bits_19 : decode (rm_code mM_bits) 19 = .ok (.istore 4, 2) := by decide +kernel
theorem d_M_bits_21 : decode (rm_code mM_bits) 21 = .ok (.iconst 0, 1) := by decide +kernel
theorem d_M_bits_22 : decode (rm_code mM_bits) 22 = .ok (.istore 5, 2) := by decide +kernel
theorem d_M_bits_24 : decode (rm_code mM_bits) 24 = .ok (.iload 5, 2) := by decide +kernel
theorem d_M_bits_26 : decode (rm_code mM_bits) 26 = .ok (.bipush (32), 2) := by decide +kernel
theorem d_M_bits_28 : decode (rm_code mM_bits) 28 = .ok (.if_icmp .ge (27), 3) := by decide +kernel
theorem d_M_bits_31 : decode (rm_code mM_bits) 31 = .ok (.iload 4, 2) := by decide +kernel
theorem d_M_bits_33 : decode (rm_code mM_bits) 33 = .ok (.iconst 1, 1) := by decide +kernel
theorem d_M_bits_34 : decode (rm_code mM_bits) 34 = .ok (.ishl, 1) := by decide +kernel
theorem d_M_bits_35 : decode (rm_code mM_bits) 35 = .ok (.aload_n 0, 1) := by decide +kernel
theorem d_M_bits_36 : decode (rm_code mM_bits) 36 = .ok (.iload_n 1, 1) := by decide +kernel
theorem d_M_bits_37 : decode (rm_code mM_bits) 37 = .ok (.iload_n 2, 1) := by decide +kernel
theorem d_M_bits_38 : decode (rm_code mM_bits) 38 = .ok (.iload 5, 2) := by decide +kernel
theorem d_M_bits_40 : decode (rm_code mM_bits) 40 = .ok (.iadd, 1) := by decide +kernel
theorem d_M_bits_41 : decode (rm_code mM_bits) 41 = .ok (.iload_n 3, 1) := by decide +kernel
theorem d_M_bits_42 : decode (rm_code mM_bits) 42 = .ok (.irem, 1) := by decide +kernel
theorem d_M_bits_43 : decode (rm_code mM_bits) 43 = .ok (.invokevirtual 46, 3) := by decide +kernel
theorem d_M_bits_46 : decode (rm_code mM_bits) 46 = .ok (.ior, 1) := by decide +kernel
theorem d_M_bits_47 : decode (rm_code mM_bits) 47 = .ok (.istore 4, 2) := by decide +kernel
theorem d_M_bits_49 : decode (rm_code mM_bits) 49 = .ok (.iinc 5 (1), 3) := by decide +kernel
theorem d_M_bits_52 : decode (rm_code mM_bits) 52 = .ok (.goto (-28), 3) := by decide +kernel
theorem d_M_bits_55 : decode (rm_code mM_bits) 55 = .ok (.iload 4, 2) := by decide +kernel
theorem d_M_bits_57 : decode (rm_code mM_bits) 57 = .ok (.ireturn, 1) := by decide +kernel
theorem p_M_bits_0 {S : rz_S} {K : Int32 → rz_S → Prop} {a1 : Int32} {a2 : Int32} (w : rz_ev mM_isBit [.int a1, .int a2] S (rz_i (fun xq1 Sq1 => ((xq1 = 0 → K 0 Sq1) ∧ (¬ xq1 = 0 → rz_ev mM_bytesOf [.int a1] Sq1 (rz_i (fun xq3 Sq3 => rz mM_bits 24 [(0, .ref 116), (1, .int a1), (2, .int a2), (3, .int (8 * xq3)), (4, .int 0), (5, .int 0)] [] Sq3 (rz_i K)))))))) : rz mM_bits 0 [(0, .ref 116), (1, .int a1), (2, .int a2)] [] S (rz_i K) := by
  refine rz_pure (pc' := 1) d_M_bits_0 rfl ?_
  refine rz_pure (pc' := 2) d_M_bits_1 rfl ?_
  refine rz_callSi (t := [.int a2, .int a1]) d_M_bits_2 rfl w_12_735 rfl rfl w (fun xq1 Sq1 q1 => ?_)
  refine rz_ifne (tgt := 10) d_M_bits_5 rfl (fun b2 => ?_) (fun b2 => ?_)
  · skip
    refine rz_bipush (v := 8) d_M_bits_10 (by decide) ?_
    refine rz_pure (pc' := 13) d_M_bits_12 rfl ?_
    refine rz_callSi (t := [.int a1]) d_M_bits_13 rfl w_12_21 rfl rfl (q1.2 b2) (fun xq3 Sq3 q3 => ?_)
    refine rz_imul d_M_bits_16 ?_
    refine rz_pure (pc' := 18) (l' := [(3, .int (8 * xq3)), (0, .ref 116), (1, .int a1), (2, .int a2)]) d_M_bits_17 rfl ?_
    refine rz_iconst (v := 0) d_M_bits_18 (by decide) ?_
    refine rz_pure (pc' := 21) (l' := [(4, .int 0), (3, .int (8 * xq3)), (0, .ref 116), (1, .int a1), (2, .int a2)]) d_M_bits_19 rfl ?_
    refine rz_iconst (v := 0) d_M_bits_21 (by decide) ?_
    refine rz_pure (pc' := 24) (l' := [(5, .int 0), (4, .int 0), (3, .int (8 * xq3)), (0, .ref 116), (1, .int a1), (2, .int a2)]) d_M_bits_22 rfl ?_
    exact rz_pick (ks := [0, 1, 2, 3, 4, 5]) (l := [(0, .ref 116), (1, .int a1), (2, .int a2), (3, .int (8 * xq3)), (4, .int 0), (5, .int 0)]) rfl rfl (by decide) rfl q3
  · skip
    refine rz_iconst (v := 0) d_M_bits_8 (by decide) ?_
    exact rz_ireti d_M_bits_9 rfl rfl (q1.1 b2)
theorem p_M_bits_24 {S : rz_S} {K : Int32 → rz_S → Prop} {a1 : Int32} {a2 : Int32} {a3 : Int32} {a4 : Int32} {a5 : Int32} (w : ((32 ≤ a5 → K a4 S) ∧ (¬ 32 ≤ a5 → (¬ a3 = 0) ∧ rz_ev mM_bitAt [.ref 116, .int a1, .int ((a2 + a5) - (a2 + a5) / a3 * a3)] S (rz_i (fun xq2 Sq2 => rz mM_bits 24 [(0, .ref 116), (1, .int a1), (2, .int a2), (3, .int a3), (4, .int ((a4 <<< ((1 : Int32) &&& 31)) ||| xq2)), (5, .int (a5 + 1))] [] Sq2 (rz_i K)))))) : rz mM_bits 24 [(0, .ref 116), (1, .int a1), (2, .int a2), (3, .int a3), (4, .int a4), (5, .int a5)] [] S (rz_i K) := by
  refine rz_pure (pc' := 26) d_M_bits_24 rfl ?_
  refine rz_bipush (v := 32) d_M_bits_26 (by decide) ?_
  refine rz_icmpge (tgt := 55) d_M_bits_28 rfl (fun b1 => ?_) (fun b1 => ?_)
  · skip
    refine rz_pure (pc' := 57) d_M_bits_55 rfl ?_
    exact rz_ireti d_M_bits_57 rfl rfl (w.1 b1)
  · skip
    refine rz_pure (pc' := 33) d_M_bits_31 rfl ?_
    refine rz_iconst (v := 1) d_M_bits_33 (by decide) ?_
    refine rz_ishl d_M_bits_34 ?_
    refine rz_pure (pc' := 36) d_M_bits_35 rfl ?_
    refine rz_pure (pc' := 37) d_M_bits_36 rfl ?_
    refine rz_pure (pc' := 38) d_M_bits_37 rfl ?_
    refine rz_pure (pc' := 40) d_M_bits_38 rfl ?_
    refine rz_iadd d_M_bits_40 ?_
    refine rz_pure (pc' := 42) d_M_bits_41 rfl ?_
    refine rz_irem d_M_bits_42 (w.2 b1).1 ?_
    refine rz_callVi (t := [.int ((a2 + a5) - (a2 + a5) / a3 * a3), .int a1]) d_M_bits_43 w_12_46 rfl rfl rfl (w.2 b1).2 (fun xq2 Sq2 q2 => ?_)
    refine rz_ior d_M_bits_46 ?_
    refine rz_pure (pc' := 49) (l' := [(4, .int ((a4 <<< ((1 : Int32) &&& 31)) ||| xq2)), (0, .ref 116), (1, .int a1), (2, .int a2), (3, .int a3), (5, .int a5)]) d_M_bits_47 rfl ?_
    refine rz_pure (pc' := 52) (l' := [(5, .int (a5 + 1)), (4, .int ((a4 <<< ((1 : Int32) &&& 31)) ||| xq2)), (0, .ref 116), (1, .int a1), (2, .int a2), (3, .int a3)]) d_M_bits_49 rfl ?_
    refine rz_pure (pc' := 24) d_M_bits_52 rfl ?_
    exact rz_pick (ks := [0, 1, 2, 3, 4, 5]) (l := [(0, .ref 116), (1, .int a1), (2, .int a2), (3, .int a3), (4, .int ((a4 <<< ((1 : Int32) &&& 31)) ||| xq2)), (5, .int (a5 + 1))]) rfl rfl (by decide) rfl q2
theorem d_M_turn_0 : decode (rm_code mM_turn) 0 = .ok (.iload_n 1, 1) := by decide +kernel
theorem d_M_turn_1 : decode (rm_code mM_turn) 1 = .ok (.iload_n 2, 1) := by decide +kernel
theorem d_M_turn_2 : decode (rm_code mM_turn) 2 = .ok (.invokestatic 735, 3) := by decide +kernel
theorem d_M_turn_5 : decode (rm_code mM_turn) 5 = .ok (.ifCond .ne (5), 3) := by decide +kernel
theorem d_M_turn_8 : decode (rm_code mM_turn) 8 = .ok (.iconst 0, 1) := by decide +kernel
theorem d_M_turn_9 : decode (rm_code mM_turn) 9 = .ok (.ireturn, 1) := by decide +kernel
theorem d_M_turn_10 : decode (rm_code mM_turn) 10 = .ok (.bipush (8), 2) := by decide +kernel
theorem d_M_turn_12 : decode (rm_code mM_turn) 12 = .ok (.iload_n 1, 1) := by decide +kernel
theorem d_M_turn_13 : decode (rm_code mM_turn) 13 = .ok (.invokestatic 21, 3) := by decide +kernel
theorem d_M_turn_16 : decode (rm_code mM_turn) 16 = .ok (.imul, 1) := by decide +kernel
theorem d_M_turn_17 : decode (rm_code mM_turn) 17 = .ok (.istore 4, 2) := by decide +kernel
theorem d_M_turn_19 : decode (rm_code mM_turn) 19 = .ok (.iconst 0, 1) := by decide +kernel
theorem d_M_turn_20 : decode (rm_code mM_turn) 20 = .ok (.istore 5, 2) := by decide +kernel
theorem d_M_turn_22 : decode (rm_code mM_turn) 22 = .ok (.iload 5, 2) := by decide +kernel
theorem d_M_turn_24 : decode (rm_code mM_turn) 24 = .ok (.bipush (32), 2) := by decide +kernel
theorem d_M_turn_26 : decode (rm_code mM_turn) 26 = .ok (.if_icmp .ge (47), 3) := by decide +kernel
theorem d_M_turn_29 : decode (rm_code mM_turn) 29 = .ok (.iload_n 2, 1) := by decide +kernel
theorem d_M_turn_30 : decode (rm_code mM_turn) 30 = .ok (.iload 5, 2) := by decide +kernel
theorem d_M_turn_32 : decode (rm_code mM_turn) 32 = .ok (.iadd, 1) := by decide +kernel
theorem d_M_turn_33 : decode (rm_code mM_turn) 33 = .ok (.iload 4, 2) := by decide +kernel
theorem d_M_turn_35 : decode (rm_code mM_turn) 35 = .ok (.irem, 1) := by decide +kernel
theorem d_M_turn_36 : decode (rm_code mM_turn) 36 = .ok (.istore 6, 2) := by decide +kernel
theorem d_M_turn_38 : decode (rm_code mM_turn) 38 = .ok (.iload_n 3, 1) := by decide +kernel
theorem d_M_turn_39 : decode (rm_code mM_turn) 39 = .ok (.bipush (31), 2) := by decide +kernel
theorem d_M_turn_41 : decode (rm_code mM_turn) 41 = .ok (.iload 5, 2) := by decide +kernel
theorem d_M_turn_43 : decode (rm_code mM_turn) 43 = .ok (.isub, 1) := by decide +kernel
theorem d_M_turn_44 : decode (rm_code mM_turn) 44 = .ok (.ishr, 1) := by decide +kernel
theorem d_M_turn_45 : decode (rm_code mM_turn) 45 = .ok (.iconst 1, 1) := by decide +kernel
theorem d_M_turn_46 : decode (rm_code mM_turn) 46 = .ok (.iand, 1) := by decide +kernel
theorem d_M_turn_47 : decode (rm_code mM_turn) 47 = .ok (.iconst 1, 1) := by decide +kernel
theorem d_M_turn_48 : decode (rm_code mM_turn) 48 = .ok (.if_icmp .ne (19), 3) := by decide +kernel
theorem d_M_turn_51 : decode (rm_code mM_turn) 51 = .ok (.aload_n 0, 1) := by decide +kernel
theorem d_M_turn_52 : decode (rm_code mM_turn) 52 = .ok (.iload_n 1, 1) := by decide +kernel
theorem d_M_turn_53 : decode (rm_code mM_turn) 53 = .ok (.iload 6, 2) := by decide +kernel
theorem d_M_turn_55 : decode (rm_code mM_turn) 55 = .ok (.iconst 1, 1) := by decide +kernel
theorem d_M_turn_56 : decode (rm_code mM_turn) 56 = .ok (.aload_n 0, 1) := by decide +kernel
theorem d_M_turn_57 : decode (rm_code mM_turn) 57 = .ok (.iload_n 1, 1) := by decide +kernel
theorem d_M_turn_58 : decode (rm_code mM_turn) 58 = .ok (.iload 6, 2) := by decide +kernel
theorem d_M_turn_60 : decode (rm_code mM_turn) 60 = .ok (.invokevirtual 46, 3) := by decide +kernel
theorem d_M_turn_63 : decode (rm_code mM_turn) 63 = .ok (.isub, 1) := by decide +kernel
theorem d_M_turn_64 : decode (rm_code mM_turn) 64 = .ok (.invokevirtual 128, 3) := by decide +kernel
theorem d_M_turn_67 : decode (rm_code mM_turn) 67 = .ok (.iinc 5 (1), 3) := by decide +kernel
theorem d_M_turn_70 : decode (rm_code mM_turn) 70 = .ok (.goto (-48), 3) := by decide +kernel
theorem d_M_turn_73 : decode (rm_code mM_turn) 73 = .ok (.iconst 1, 1) := by decide +kernel
theorem d_M_turn_74 : decode (rm_code mM_turn) 74 = .ok (.ireturn, 1) := by decide +kernel
theorem p_M_turn_0 {S : rz_S} {K : Int32 → rz_S → Prop} {a1 : Int32} {a2 : Int32} {a3 : Int32} (w : rz_ev mM_isBit [.int a1, .int a2] S (rz_i (fun xq1 Sq1 => ((xq1 = 0 → K 0 Sq1) ∧ (¬ xq1 = 0 → rz_ev mM_bytesOf [.int a1] Sq1 (rz_i (fun xq3 Sq3 => rz mM_turn 22 [(0, .ref 116), (1, .int a1), (2, .int a2), (3, .int a3), (4, .int (8 * xq3)), (5, .int 0)] [] Sq3 (rz_i K)))))))) : rz mM_turn 0 [(0, .ref 116), (1, .int a1), (2, .int a2), (3, .int a3)] [] S (rz_i K) := by
  refine rz_pure (pc' := 1) d_M_turn_0 rfl ?_
  refine rz_pure (pc' := 2) d_M_turn_1 rfl ?_
  refine rz_callSi (t := [.int a2, .int a1]) d_M_turn_2 rfl w_12_735 rfl rfl w (fun xq1 Sq1 q1 => ?_)
  refine rz_ifne (tgt := 10) d_M_turn_5 rfl (fun b2 => ?_) (fun b2 => ?_)
  · skip
    refine rz_bipush (v := 8) d_M_turn_10 (by decide) ?_
    refine rz_pure (pc' := 13) d_M_turn_12 rfl ?_
    refine rz_callSi (t := [.int a1]) d_M_turn_13 rfl w_12_21 rfl rfl (q1.2 b2) (fun xq3 Sq3 q3 => ?_)
    refine rz_imul d_M_turn_16 ?_
    refine rz_pure (pc' := 19) (l' := [(4, .int (8 * xq3)), (0, .ref 116), (1, .int a1), (2, .int a2), (3, .int a3)]) d_M_turn_17 rfl ?_
    refine rz_iconst (v := 0) d_M_turn_19 (by decide) ?_
    refine rz_pure (pc' := 22) (l' := [(5, .int 0), (4, .int (8 * xq3)), (0, .ref 116), (1, .int a1), (2, .int a2), (3, .int a3)]) d_M_turn_20 rfl ?_
    exact rz_pick (ks := [0, 1, 2, 3, 4, 5]) (l := [(0, .ref 116), (1, .int a1), (2, .int a2), (3, .int a3), (4, .int (8 * xq3)), (5, .int 0)]) rfl rfl (by decide) rfl q3
  · skip
    refine rz_iconst (v := 0) d_M_turn_8 (by decide) ?_
    exact rz_ireti d_M_turn_9 rfl (by decide) (q1.1 b2)
theorem p_M_turn_22 {S : rz_S} {K : Int32 → rz_S → Prop} {a1 : Int32} {a2 : Int32} {a3 : Int32} {a4 : Int32} {a5 : Int32} (w : ((32 ≤ a5 → K 1 S) ∧ (¬ 32 ≤ a5 → (¬ a4 = 0) ∧ (((a3 >>> ((31 - a5) &&& 31)) &&& 1 = 1 → rz_ev mM_bitAt [.ref 116, .int a1, .int ((a2 + a5) - (a2 + a5) / a4 * a4)] S (rz_i (fun xq3 Sq3 => rz_ev mM_setBit [.ref 116, .int a1, .int ((a2 + a5) - (a2 + a5) / a4 * a4), .int (1 - xq3)] Sq3 (rz_v (fun Sq4 => rz mM_turn 22 [(0, .ref 116), (1, .int a1), (2, .int a2), (3, .int a3), (4, .int a4), (5, .int (a5 + 1))] [] Sq4 (rz_i K)))))) ∧ (¬ (a3 >>> ((31 - a5) &&& 31)) &&& 1 = 1 → rz mM_turn 22 [(0, .ref 116), (1, .int a1), (2, .int a2), (3, .int a3), (4, .int a4), (5, .int (a5 + 1))] [] S (rz_i K)))))) : rz mM_turn 22 [(0, .ref 116), (1, .int a1), (2, .int a2), (3, .int a3), (4, .int a4), (5, .int a5)] [] S (rz_i K) := by
  refine rz_pure (pc' := 24) d_M_turn_22 rfl ?_
  refine rz_bipush (v := 32) d_M_turn_24 (by decide) ?_
  refine rz_icmpge (tgt := 73) d_M_turn_26 rfl (fun b1 => ?_) (fun b1 => ?_)
  · skip
    refine rz_iconst (v := 1) d_M_turn_73 (by decide) ?_
    exact rz_ireti d_M_turn_74 rfl (by decide) (w.1 b1)
  · skip
    refine rz_pure (pc' := 30) d_M_turn_29 rfl ?_
    refine rz_pure (pc' := 32) d_M_turn_30 rfl ?_
    refine rz_iadd d_M_turn_32 ?_
    refine rz_pure (pc' := 35) d_M_turn_33 rfl ?_
    refine rz_irem d_M_turn_35 (w.2 b1).1 ?_
    refine rz_pure (pc' := 38) (l' := [(6, .int ((a2 + a5) - (a2 + a5) / a4 * a4)), (0, .ref 116), (1, .int a1), (2, .int a2), (3, .int a3), (4, .int a4), (5, .int a5)]) d_M_turn_36 rfl ?_
    refine rz_pure (pc' := 39) d_M_turn_38 rfl ?_
    refine rz_bipush (v := 31) d_M_turn_39 (by decide) ?_
    refine rz_pure (pc' := 43) d_M_turn_41 rfl ?_
    refine rz_isub d_M_turn_43 ?_
    refine rz_ishr d_M_turn_44 ?_
    refine rz_iconst (v := 1) d_M_turn_45 (by decide) ?_
    refine rz_iand d_M_turn_46 ?_
    refine rz_iconst (v := 1) d_M_turn_47 (by decide) ?_
    refine rz_icmpne (tgt := 67) d_M_turn_48 rfl (fun b2 => ?_) (fun b2 => ?_)
    · skip
      refine rz_pure (pc' := 70) (l' := [(5, .int (a5 + 1)), (6, .int ((a2 + a5) - (a2 + a5) / a4 * a4)), (0, .ref 116), (1, .int a1), (2, .int a2), (3, .int a3), (4, .int a4)]) d_M_turn_67 rfl ?_
      refine rz_pure (pc' := 22) d_M_turn_70 rfl ?_
      exact rz_pick (ks := [0, 1, 2, 3, 4, 5]) (l := [(0, .ref 116), (1, .int a1), (2, .int a2), (3, .int a3), (4, .int a4), (5, .int (a5 + 1))]) rfl rfl (by decide) rfl ((w.2 b1).2.2 b2)
    · skip
      refine rz_pure (pc' := 52) d_M_turn_51 rfl ?_
      refine rz_pure (pc' := 53) d_M_turn_52 rfl ?_
      refine rz_pure (pc' := 55) d_M_turn_53 rfl ?_
      refine rz_iconst (v := 1) d_M_turn_55 (by decide) ?_
      refine rz_pure (pc' := 57) d_M_turn_56 rfl ?_
      refine rz_pure (pc' := 58) d_M_turn_57 rfl ?_
      refine rz_pure (pc' := 60) d_M_turn_58 rfl ?_
      refine rz_callVi (t := [.int ((a2 + a5) - (a2 + a5) / a4 * a4), .int a1]) d_M_turn_60 w_12_46 rfl rfl rfl ((w.2 b1).2.1 b2) (fun xq3 Sq3 q3 => ?_)
      refine rz_isub d_M_turn_63 ?_
      refine rz_callVv (t := [.int (1 - xq3), .int ((a2 + a5) - (a2 + a5) / a4 * a4), .int a1]) d_M_turn_64 w_12_128 rfl rfl rfl q3 (fun Sq4 q4 => ?_)
      refine rz_pure (pc' := 70) (l' := [(5, .int (a5 + 1)), (6, .int ((a2 + a5) - (a2 + a5) / a4 * a4)), (0, .ref 116), (1, .int a1), (2, .int a2), (3, .int a3), (4, .int a4)]) d_M_turn_67 rfl ?_
      refine rz_pure (pc' := 22) d_M_turn_70 rfl ?_
      exact rz_pick (ks := [0, 1, 2, 3, 4, 5]) (l := [(0, .ref 116), (1, .int a1), (2, .int a2), (3, .int a3), (4, .int a4), (5, .int (a5 + 1))]) rfl rfl (by decide) rfl q4
