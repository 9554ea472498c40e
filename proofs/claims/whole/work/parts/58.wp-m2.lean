/-! what each block of the code asks (printed by wpgen.py) -/
theorem d_M_trackOf_0 : decode (rm_code mM_trackOf) 0 = .ok (.iload_n 0, 1) := by decide +kernel
theorem d_M_trackOf_1 : decode (rm_code mM_trackOf) 1 = .ok (.bipush (10), 2) := by decide +kernel
theorem d_M_trackOf_3 : decode (rm_code mM_trackOf) 3 = .ok (.if_icmp .ne (7), 3) := by decide +kernel
theorem d_M_trackOf_6 : decode (rm_code mM_trackOf) 6 = .ok (.iconst 1, 1) := by decide +kernel
theorem d_M_trackOf_7 : decode (rm_code mM_trackOf) 7 = .ok (.goto (24), 3) := by decide +kernel
theorem d_M_trackOf_10 : decode (rm_code mM_trackOf) 10 = .ok (.iload_n 0, 1) := by decide +kernel
theorem d_M_trackOf_11 : decode (rm_code mM_trackOf) 11 = .ok (.iconst 2, 1) := by decide +kernel
theorem d_M_trackOf_12 : decode (rm_code mM_trackOf) 12 = .ok (.irem, 1) := by decide +kernel
theorem d_M_trackOf_13 : decode (rm_code mM_trackOf) 13 = .ok (.ifCond .ne (12), 3) := by decide +kernel
theorem d_M_trackOf_16 : decode (rm_code mM_trackOf) 16 = .ok (.bipush (6), 2) := by decide +kernel
theorem d_M_trackOf_18 : decode (rm_code mM_trackOf) 18 = .ok (.iload_n 0, 1) := by decide +kernel
theorem d_M_trackOf_19 : decode (rm_code mM_trackOf) 19 = .ok (.iconst 2, 1) := by decide +kernel
theorem d_M_trackOf_20 : decode (rm_code mM_trackOf) 20 = .ok (.idiv, 1) := by decide +kernel
theorem d_M_trackOf_21 : decode (rm_code mM_trackOf) 21 = .ok (.isub, 1) := by decide +kernel
theorem d_M_trackOf_22 : decode (rm_code mM_trackOf) 22 = .ok (.goto (9), 3) := by decide +kernel
theorem d_M_trackOf_25 : decode (rm_code mM_trackOf) 25 = .ok (.bipush (8), 2) := by decide +kernel
theorem d_M_trackOf_27 : decode (rm_code mM_trackOf) 27 = .ok (.iload_n 0, 1) := by decide +kernel
theorem d_M_trackOf_28 : decode (rm_code mM_trackOf) 28 = .ok (.iconst 2, 1) := by decide +kernel
theorem d_M_trackOf_29 : decode (rm_code mM_trackOf) 29 = .ok (.idiv, 1) := by decide +kernel
theorem d_M_trackOf_30 : decode (rm_code mM_trackOf) 30 = .ok (.iadd, 1) := by decide +kernel
theorem d_M_trackOf_31 : decode (rm_code mM_trackOf) 31 = .ok (.ireturn, 1) := by decide +kernel
theorem p_M_trackOf_0 {S : rz_S} {K : Int32 → rz_S → Prop} {a0 : Int32} (w : ((a0 = 10 → K 1 S) ∧ (¬ a0 = 10 → ((a0 - a0 / 2 * 2 = 0 → K (6 - (a0 / 2)) S) ∧ (¬ a0 - a0 / 2 * 2 = 0 → K (8 + (a0 / 2)) S))))) : rz mM_trackOf 0 [(0, .int a0)] [] S (rz_i K) := by
  refine rz_pure (pc' := 1) d_M_trackOf_0 rfl ?_
  refine rz_bipush (v := 10) d_M_trackOf_1 (by decide) ?_
  refine rz_icmpne (tgt := 10) d_M_trackOf_3 rfl (fun b1 => ?_) (fun b1 => ?_)
  · skip
    refine rz_pure (pc' := 11) d_M_trackOf_10 rfl ?_
    refine rz_iconst (v := 2) d_M_trackOf_11 (by decide) ?_
    refine rz_irem d_M_trackOf_12 (by decide) ?_
    refine rz_ifne (tgt := 25) d_M_trackOf_13 rfl (fun b2 => ?_) (fun b2 => ?_)
    · skip
      refine rz_bipush (v := 8) d_M_trackOf_25 (by decide) ?_
      refine rz_pure (pc' := 28) d_M_trackOf_27 rfl ?_
      refine rz_iconst (v := 2) d_M_trackOf_28 (by decide) ?_
      refine rz_idiv d_M_trackOf_29 (by decide) ?_
      refine rz_iadd d_M_trackOf_30 ?_
      exact rz_ireti d_M_trackOf_31 rfl rfl ((w.2 b1).2 b2)
    · skip
      refine rz_bipush (v := 6) d_M_trackOf_16 (by decide) ?_
      refine rz_pure (pc' := 19) d_M_trackOf_18 rfl ?_
      refine rz_iconst (v := 2) d_M_trackOf_19 (by decide) ?_
      refine rz_idiv d_M_trackOf_20 (by decide) ?_
      refine rz_isub d_M_trackOf_21 ?_
      refine rz_pure (pc' := 31) d_M_trackOf_22 rfl ?_
      exact rz_ireti d_M_trackOf_31 rfl rfl ((w.2 b1).1 b2)
  · skip
    refine rz_iconst (v := 1) d_M_trackOf_6 (by decide) ?_
    refine rz_pure (pc' := 31) d_M_trackOf_7 rfl ?_
    exact rz_ireti d_M_trackOf_31 rfl rfl (w.1 b1)
theorem d_M_takesOne_0 : decode (rm_code mM_takesOne) 0 = .ok (.iconst 0, 1) := by decide +kernel
theorem d_M_takesOne_1 : decode (rm_code mM_takesOne) 1 = .ok (.istore_n 1, 1) := by decide +kernel
theorem d_M_takesOne_2 : decode (rm_code mM_takesOne) 2 = .ok (.iload_n 1, 1) := by decide +kernel
theorem d_M_takesOne_3 : decode (rm_code mM_takesOne) 3 = .ok (.bipush (11), 2) := by decide +kernel
theorem d_M_takesOne_5 : decode (rm_code mM_takesOne) 5 = .ok (.if_icmp .ge (33), 3) := by decide +kernel
theorem d_M_takesOne_8 : decode (rm_code mM_takesOne) 8 = .ok (.iload_n 1, 1) := by decide +kernel
theorem d_M_takesOne_9 : decode (rm_code mM_takesOne) 9 = .ok (.invokestatic 168, 3) := by decide +kernel
theorem d_M_takesOne_12 : decode (rm_code mM_takesOne) 12 = .ok (.istore_n 2, 1) := by decide +kernel
theorem d_M_takesOne_13 : decode (rm_code mM_takesOne) 13 = .ok (.aload_n 0, 1) := by decide +kernel
theorem d_M_takesOne_14 : decode (rm_code mM_takesOne) 14 = .ok (.iload_n 2, 1) := by decide +kernel
theorem d_M_takesOne_15 : decode (rm_code mM_takesOne) 15 = .ok (.invokevirtual 171, 3) := by decide +kernel
theorem d_M_takesOne_18 : decode (rm_code mM_takesOne) 18 = .ok (.istore_n 3, 1) := by decide +kernel
theorem d_M_takesOne_19 : decode (rm_code mM_takesOne) 19 = .ok (.iload_n 3, 1) := by decide +kernel
theorem d_M_takesOne_20 : decode (rm_code mM_takesOne) 20 = .ok (.iconst (-1), 1) := by decide +kernel
theorem d_M_takesOne_21 : decode (rm_code mM_takesOne) 21 = .ok (.if_icmp .eq (11), 3) := by decide +kernel
theorem d_M_takesOne_24 : decode (rm_code mM_takesOne) 24 = .ok (.aload_n 0, 1) := by decide +kernel
theorem d_M_takesOne_25 : decode (rm_code mM_takesOne) 25 = .ok (.iload_n 2, 1) := by decide +kernel
theorem d_M_takesOne_26 : decode (rm_code mM_takesOne) 26 = .ok (.iload_n 3, 1) := by decide +kernel
theorem d_M_takesOne_27 : decode (rm_code mM_takesOne) 27 = .ok (.invokevirtual 174, 3) := by decide +kernel
theorem d_M_takesOne_30 : decode (rm_code mM_takesOne) 30 = .ok (.iconst 0, 1) := by decide +kernel
theorem d_M_takesOne_31 : decode (rm_code mM_takesOne) 31 = .ok (.ireturn, 1) := by decide +kernel
theorem d_M_takesOne_32 : decode (rm_code mM_takesOne) 32 = .ok (.iinc 1 (1), 3) := by decide +kernel
theorem d_M_takesOne_35 : decode (rm_code mM_takesOne) 35 = .ok (.goto (-33), 3) := by decide +kernel
theorem d_M_takesOne_38 : decode (rm_code mM_takesOne) 38 = .ok (.aload_n 0, 1) := by decide +kernel
theorem d_M_takesOne_39 : decode (rm_code mM_takesOne) 39 = .ok (.bipush (72), 2) := by decide +kernel
theorem d_M_takesOne_41 : decode (rm_code mM_takesOne) 41 = .ok (.iconst 0, 1) := by decide +kernel
theorem d_M_takesOne_42 : decode (rm_code mM_takesOne) 42 = .ok (.iconst 0, 1) := by decide +kernel
theorem d_M_takesOne_43 : decode (rm_code mM_takesOne) 43 = .ok (.invokevirtual 113, 3) := by decide +kernel
theorem d_M_takesOne_46 : decode (rm_code mM_takesOne) 46 = .ok (.ireturn, 1) := by decide +kernel
theorem p_M_takesOne_0 {S : rz_S} {K : Int32 → rz_S → Prop} (w : rz mM_takesOne 2 [(0, .ref 116), (1, .int 0)] [] S (rz_i K)) : rz mM_takesOne 0 [(0, .ref 116)] [] S (rz_i K) := by
  refine rz_iconst (v := 0) d_M_takesOne_0 (by decide) ?_
  refine rz_pure (pc' := 2) (l' := [(1, .int 0), (0, .ref 116)]) d_M_takesOne_1 rfl ?_
  exact rz_pick (ks := [0, 1]) (l := [(0, .ref 116), (1, .int 0)]) rfl rfl (by decide) rfl w
theorem p_M_takesOne_2 {S : rz_S} {K : Int32 → rz_S → Prop} {a1 : Int32} (w : ((11 ≤ a1 → rz_ev mM_fault [.ref 116, .int 72, .int 0, .int 0] S (rz_i (fun xq2 Sq2 => K xq2 Sq2))) ∧ (¬ 11 ≤ a1 → rz_ev mM_trackOf [.int a1] S (rz_i (fun xq3 Sq3 => rz_ev mM_lowest [.ref 116, .int xq3] Sq3 (rz_i (fun xq4 Sq4 => ((xq4 = (-1) → rz mM_takesOne 2 [(0, .ref 116), (1, .int (a1 + 1))] [] Sq4 (rz_i K)) ∧ (¬ xq4 = (-1) → rz_ev mM_takes [.ref 116, .int xq3, .int xq4] Sq4 (rz_v (fun Sq6 => K 0 Sq6))))))))))) : rz mM_takesOne 2 [(0, .ref 116), (1, .int a1)] [] S (rz_i K) := by
  refine rz_pure (pc' := 3) d_M_takesOne_2 rfl ?_
  refine rz_bipush (v := 11) d_M_takesOne_3 (by decide) ?_
  refine rz_icmpge (tgt := 38) d_M_takesOne_5 rfl (fun b1 => ?_) (fun b1 => ?_)
  · skip
    refine rz_pure (pc' := 39) d_M_takesOne_38 rfl ?_
    refine rz_bipush (v := 72) d_M_takesOne_39 (by decide) ?_
    refine rz_iconst (v := 0) d_M_takesOne_41 (by decide) ?_
    refine rz_iconst (v := 0) d_M_takesOne_42 (by decide) ?_
    refine rz_callVi (t := [.int 0, .int 0, .int 72]) d_M_takesOne_43 w_12_113 rfl rfl rfl (w.1 b1) (fun xq2 Sq2 q2 => ?_)
    exact rz_ireti d_M_takesOne_46 rfl rfl q2
  · skip
    refine rz_pure (pc' := 9) d_M_takesOne_8 rfl ?_
    refine rz_callSi (t := [.int a1]) d_M_takesOne_9 rfl w_12_168 rfl rfl (w.2 b1) (fun xq3 Sq3 q3 => ?_)
    refine rz_pure (pc' := 13) (l' := [(2, .int xq3), (0, .ref 116), (1, .int a1)]) d_M_takesOne_12 rfl ?_
    refine rz_pure (pc' := 14) d_M_takesOne_13 rfl ?_
    refine rz_pure (pc' := 15) d_M_takesOne_14 rfl ?_
    refine rz_callVi (t := [.int xq3]) d_M_takesOne_15 w_12_171 rfl rfl rfl q3 (fun xq4 Sq4 q4 => ?_)
    refine rz_pure (pc' := 19) (l' := [(3, .int xq4), (2, .int xq3), (0, .ref 116), (1, .int a1)]) d_M_takesOne_18 rfl ?_
    refine rz_pure (pc' := 20) d_M_takesOne_19 rfl ?_
    refine rz_iconst (v := -1) d_M_takesOne_20 (by decide) ?_
    refine rz_icmpeq (tgt := 32) d_M_takesOne_21 rfl (fun b5 => ?_) (fun b5 => ?_)
    · skip
      refine rz_pure (pc' := 35) (l' := [(1, .int (a1 + 1)), (3, .int xq4), (2, .int xq3), (0, .ref 116)]) d_M_takesOne_32 rfl ?_
      refine rz_pure (pc' := 2) d_M_takesOne_35 rfl ?_
      exact rz_pick (ks := [0, 1]) (l := [(0, .ref 116), (1, .int (a1 + 1))]) rfl rfl (by decide) rfl (q4.1 b5)
    · skip
      refine rz_pure (pc' := 25) d_M_takesOne_24 rfl ?_
      refine rz_pure (pc' := 26) d_M_takesOne_25 rfl ?_
      refine rz_pure (pc' := 27) d_M_takesOne_26 rfl ?_
      refine rz_callVv (t := [.int xq4, .int xq3]) d_M_takesOne_27 w_12_174 rfl rfl rfl (q4.2 b5) (fun Sq6 q6 => ?_)
      refine rz_iconst (v := 0) d_M_takesOne_30 (by decide) ?_
      exact rz_ireti d_M_takesOne_31 rfl rfl q6
theorem d_M_takesNext_0 : decode (rm_code mM_takesNext) 0 = .ok (.iload_n 1, 1) := by decide +kernel
theorem d_M_takesNext_1 : decode (rm_code mM_takesNext) 1 = .ok (.bipush (7), 2) := by decide +kernel
theorem d_M_takesNext_3 : decode (rm_code mM_takesNext) 3 = .ok (.if_icmp .eq (65), 3) := by decide +kernel
theorem d_M_takesNext_6 : decode (rm_code mM_takesNext) 6 = .ok (.aload_n 0, 1) := by decide +kernel
theorem d_M_takesNext_7 : decode (rm_code mM_takesNext) 7 = .ok (.getfield 145, 3) := by decide +kernel
theorem d_M_takesNext_10 : decode (rm_code mM_takesNext) 10 = .ok (.iconst 2, 1) := by decide +kernel
theorem d_M_takesNext_11 : decode (rm_code mM_takesNext) 11 = .ok (.iconst 2, 1) := by decide +kernel
theorem d_M_takesNext_12 : decode (rm_code mM_takesNext) 12 = .ok (.iload_n 1, 1) := by decide +kernel
theorem d_M_takesNext_13 : decode (rm_code mM_takesNext) 13 = .ok (.imul, 1) := by decide +kernel
theorem d_M_takesNext_14 : decode (rm_code mM_takesNext) 14 = .ok (.iadd, 1) := by decide +kernel
theorem d_M_takesNext_15 : decode (rm_code mM_takesNext) 15 = .ok (.iaload, 1) := by decide +kernel
theorem d_M_takesNext_16 : decode (rm_code mM_takesNext) 16 = .ok (.ifCond .eq (52), 3) := by decide +kernel
theorem d_M_takesNext_19 : decode (rm_code mM_takesNext) 19 = .ok (.iload_n 1, 1) := by decide +kernel
theorem d_M_takesNext_20 : decode (rm_code mM_takesNext) 20 = .ok (.invokestatic 1, 3) := by decide +kernel
theorem d_M_takesNext_23 : decode (rm_code mM_takesNext) 23 = .ok (.istore_n 3, 1) := by decide +kernel
theorem d_M_takesNext_24 : decode (rm_code mM_takesNext) 24 = .ok (.iconst 0, 1) := by decide +kernel
theorem d_M_takesNext_25 : decode (rm_code mM_takesNext) 25 = .ok (.istore 4, 2) := by decide +kernel
theorem d_M_takesNext_27 : decode (rm_code mM_takesNext) 27 = .ok (.iload 4, 2) := by decide +kernel
theorem d_M_takesNext_29 : decode (rm_code mM_takesNext) 29 = .ok (.iload_n 3, 1) := by decide +kernel
theorem d_M_takesNext_30 : decode (rm_code mM_takesNext) 30 = .ok (.if_icmp .ge (38), 3) := by decide +kernel
theorem d_M_takesNext_33 : decode (rm_code mM_takesNext) 33 = .ok (.iload_n 2, 1) := by decide +kernel
theorem d_M_takesNext_34 : decode (rm_code mM_takesNext) 34 = .ok (.iconst 3, 1) := by decide +kernel
theorem d_M_takesNext_35 : decode (rm_code mM_takesNext) 35 = .ok (.iadd, 1) := by decide +kernel
theorem d_M_takesNext_36 : decode (rm_code mM_takesNext) 36 = .ok (.iload 4, 2) := by decide +kernel
theorem d_M_takesNext_38 : decode (rm_code mM_takesNext) 38 = .ok (.iadd, 1) := by decide +kernel
theorem d_M_takesNext_39 : decode (rm_code mM_takesNext) 39 = .ok (.iload_n 3, 1) := by decide +kernel
theorem d_M_takesNext_40 : decode (rm_code mM_takesNext) 40 = .ok (.irem, 1) := by decide +kernel
theorem d_M_takesNext_41 : decode (rm_code mM_takesNext) 41 = .ok (.istore 5, 2) := by decide +kernel
theorem d_M_takesNext_43 : decode (rm_code mM_takesNext) 43 = .ok (.aload_n 0, 1) := by decide +kernel
theorem d_M_takesNext_44 : decode (rm_code mM_takesNext) 44 = .ok (.iload_n 1, 1) := by decide +kernel
theorem d_M_takesNext_45 : decode (rm_code mM_takesNext) 45 = .ok (.iload 5, 2) := by decide +kernel
theorem d_M_takesNext_47 : decode (rm_code mM_takesNext) 47 = .ok (.invokevirtual 165, 3) := by decide +kernel
theorem d_M_takesNext_50 : decode (rm_code mM_takesNext) 50 = .ok (.ifCond .eq (12), 3) := by decide +kernel
theorem d_M_takesNext_53 : decode (rm_code mM_takesNext) 53 = .ok (.aload_n 0, 1) := by decide +kernel
theorem d_M_takesNext_54 : decode (rm_code mM_takesNext) 54 = .ok (.iload_n 1, 1) := by decide +kernel
theorem d_M_takesNext_55 : decode (rm_code mM_takesNext) 55 = .ok (.iload 5, 2) := by decide +kernel
theorem d_M_takesNext_57 : decode (rm_code mM_takesNext) 57 = .ok (.invokevirtual 174, 3) := by decide +kernel
theorem d_M_takesNext_60 : decode (rm_code mM_takesNext) 60 = .ok (.iconst 0, 1) := by decide +kernel
theorem d_M_takesNext_61 : decode (rm_code mM_takesNext) 61 = .ok (.ireturn, 1) := by decide +kernel
theorem d_M_takesNext_62 : decode (rm_code mM_takesNext) 62 = .ok (.iinc 4 (1), 3) := by decide +kernel
theorem d_M_takesNext_65 : decode (rm_code mM_takesNext) 65 = .ok (.goto (-38), 3) := by decide +kernel
theorem d_M_takesNext_68 : decode (rm_code mM_takesNext) 68 = .ok (.aload_n 0, 1) := by decide +kernel
theorem d_M_takesNext_69 : decode (rm_code mM_takesNext) 69 = .ok (.invokevirtual 177, 3) := by decide +kernel
theorem d_M_takesNext_72 : decode (rm_code mM_takesNext) 72 = .ok (.ireturn, 1) := by decide +kernel
theorem p_M_takesNext_0 {S : rz_S} {K : Int32 → rz_S → Prop} {a1 : Int32} {a2 : Int32} (w : ((a1 = 7 → rz mM_takesNext 68 [(0, .ref 116)] [] S (rz_i K)) ∧ (¬ a1 = 7 → rx_in (2 + (2 * a1)) 64 = true ∧ ((S.1 123 ((2 + (2 * a1)).toNatClampNeg) = 0 → rz mM_takesNext 68 [(0, .ref 116)] [] S (rz_i K)) ∧ (¬ S.1 123 ((2 + (2 * a1)).toNatClampNeg) = 0 → rz_ev mM_sectorsOf [.int a1] S (rz_i (fun xq3 Sq3 => rz mM_takesNext 27 [(0, .ref 116), (1, .int a1), (2, .int a2), (3, .int xq3), (4, .int 0)] [] Sq3 (rz_i K)))))))) : rz mM_takesNext 0 [(0, .ref 116), (1, .int a1), (2, .int a2)] [] S (rz_i K) := by
  refine rz_pure (pc' := 1) d_M_takesNext_0 rfl ?_
  refine rz_bipush (v := 7) d_M_takesNext_1 (by decide) ?_
  refine rz_icmpeq (tgt := 68) d_M_takesNext_3 rfl (fun b1 => ?_) (fun b1 => ?_)
  · skip
    exact rz_pick (ks := [0]) (l := [(0, .ref 116)]) rfl rfl (by decide) rfl (w.1 b1)
  · skip
    refine rz_pure (pc' := 7) d_M_takesNext_6 rfl ?_
    refine rz_getr d_M_takesNext_7 f_12_145 rfl rfl ?_
    refine rz_iconst (v := 2) d_M_takesNext_10 (by decide) ?_
    refine rz_iconst (v := 2) d_M_takesNext_11 (by decide) ?_
    refine rz_pure (pc' := 13) d_M_takesNext_12 rfl ?_
    refine rz_imul d_M_takesNext_13 ?_
    refine rz_iadd d_M_takesNext_14 ?_
    refine rz_ialdv (F := S.1 123) (i := (2 + (2 * a1)).toNatClampNeg) d_M_takesNext_15 rfl (w.2 b1).1 rfl rfl ?_
    refine rz_ifeq (tgt := 68) d_M_takesNext_16 rfl (fun b2 => ?_) (fun b2 => ?_)
    · skip
      exact rz_pick (ks := [0]) (l := [(0, .ref 116)]) rfl rfl (by decide) rfl ((w.2 b1).2.1 b2)
    · skip
      refine rz_pure (pc' := 20) d_M_takesNext_19 rfl ?_
      refine rz_callSi (t := [.int a1]) d_M_takesNext_20 rfl w_12_1 rfl rfl ((w.2 b1).2.2 b2) (fun xq3 Sq3 q3 => ?_)
      refine rz_pure (pc' := 24) (l' := [(3, .int xq3), (0, .ref 116), (1, .int a1), (2, .int a2)]) d_M_takesNext_23 rfl ?_
      refine rz_iconst (v := 0) d_M_takesNext_24 (by decide) ?_
      refine rz_pure (pc' := 27) (l' := [(4, .int 0), (3, .int xq3), (0, .ref 116), (1, .int a1), (2, .int a2)]) d_M_takesNext_25 rfl ?_
      exact rz_pick (ks := [0, 1, 2, 3, 4]) (l := [(0, .ref 116), (1, .int a1), (2, .int a2), (3, .int xq3), (4, .int 0)]) rfl rfl (by decide) rfl q3
theorem p_M_takesNext_68 {S : rz_S} {K : Int32 → rz_S → Prop} (w : rz_ev mM_takesOne [.ref 116] S (rz_i (fun xq1 Sq1 => K xq1 Sq1))) : rz mM_takesNext 68 [(0, .ref 116)] [] S (rz_i K) := by
  refine rz_pure (pc' := 69) d_M_takesNext_68 rfl ?_
  refine rz_callVi (t := []) d_M_takesNext_69 w_12_177 rfl rfl rfl w (fun xq1 Sq1 q1 => ?_)
  exact rz_ireti d_M_takesNext_72 rfl rfl q1
theorem p_M_takesNext_27 {S : rz_S} {K : Int32 → rz_S → Prop} {a1 : Int32} {a2 : Int32} {a3 : Int32} {a4 : Int32} (w : ((a3 ≤ a4 → rz mM_takesNext 68 [(0, .ref 116)] [] S (rz_i K)) ∧ (¬ a3 ≤ a4 → (¬ a3 = 0) ∧ rz_ev mM_isFree [.ref 116, .int a1, .int (((a2 + 3) + a4) - ((a2 + 3) + a4) / a3 * a3)] S (rz_i (fun xq2 Sq2 => ((xq2 = 0 → rz mM_takesNext 27 [(0, .ref 116), (1, .int a1), (2, .int a2), (3, .int a3), (4, .int (a4 + 1))] [] Sq2 (rz_i K)) ∧ (¬ xq2 = 0 → rz_ev mM_takes [.ref 116, .int a1, .int (((a2 + 3) + a4) - ((a2 + 3) + a4) / a3 * a3)] Sq2 (rz_v (fun Sq4 => K 0 Sq4))))))))) : rz mM_takesNext 27 [(0, .ref 116), (1, .int a1), (2, .int a2), (3, .int a3), (4, .int a4)] [] S (rz_i K) := by
  refine rz_pure (pc' := 29) d_M_takesNext_27 rfl ?_
  refine rz_pure (pc' := 30) d_M_takesNext_29 rfl ?_
  refine rz_icmpge (tgt := 68) d_M_takesNext_30 rfl (fun b1 => ?_) (fun b1 => ?_)
  · skip
    exact rz_pick (ks := [0]) (l := [(0, .ref 116)]) rfl rfl (by decide) rfl (w.1 b1)
  · skip
    refine rz_pure (pc' := 34) d_M_takesNext_33 rfl ?_
    refine rz_iconst (v := 3) d_M_takesNext_34 (by decide) ?_
    refine rz_iadd d_M_takesNext_35 ?_
    refine rz_pure (pc' := 38) d_M_takesNext_36 rfl ?_
    refine rz_iadd d_M_takesNext_38 ?_
    refine rz_pure (pc' := 40) d_M_takesNext_39 rfl ?_
    refine rz_irem d_M_takesNext_40 (w.2 b1).1 ?_
    refine rz_pure (pc' := 43) (l' := [(5, .int (((a2 + 3) + a4) - ((a2 + 3) + a4) / a3 * a3)), (0, .ref 116), (1, .int a1), (2, .int a2), (3, .int a3), (4, .int a4)]) d_M_takesNext_41 rfl ?_
    refine rz_pure (pc' := 44) d_M_takesNext_43 rfl ?_
    refine rz_pure (pc' := 45) d_M_takesNext_44 rfl ?_
    refine rz_pure (pc' := 47) d_M_takesNext_45 rfl ?_
    refine rz_callVi (t := [.int (((a2 + 3) + a4) - ((a2 + 3) + a4) / a3 * a3), .int a1]) d_M_takesNext_47 w_12_165 rfl rfl rfl (w.2 b1).2 (fun xq2 Sq2 q2 => ?_)
    refine rz_ifeq (tgt := 62) d_M_takesNext_50 rfl (fun b3 => ?_) (fun b3 => ?_)
    · skip
      refine rz_pure (pc' := 65) (l' := [(4, .int (a4 + 1)), (5, .int (((a2 + 3) + a4) - ((a2 + 3) + a4) / a3 * a3)), (0, .ref 116), (1, .int a1), (2, .int a2), (3, .int a3)]) d_M_takesNext_62 rfl ?_
      refine rz_pure (pc' := 27) d_M_takesNext_65 rfl ?_
      exact rz_pick (ks := [0, 1, 2, 3, 4]) (l := [(0, .ref 116), (1, .int a1), (2, .int a2), (3, .int a3), (4, .int (a4 + 1))]) rfl rfl (by decide) rfl (q2.1 b3)
    · skip
      refine rz_pure (pc' := 54) d_M_takesNext_53 rfl ?_
      refine rz_pure (pc' := 55) d_M_takesNext_54 rfl ?_
      refine rz_pure (pc' := 57) d_M_takesNext_55 rfl ?_
      refine rz_callVv (t := [.int (((a2 + 3) + a4) - ((a2 + 3) + a4) / a3 * a3), .int a1]) d_M_takesNext_57 w_12_174 rfl rfl rfl (q2.2 b3) (fun Sq4 q4 => ?_)
      refine rz_iconst (v := 0) d_M_takesNext_60 (by decide) ?_
      exact rz_ireti d_M_takesNext_61 rfl rfl q4
theorem d_M_freesChain_0 : decode (rm_code mM_freesChain) 0 = .ok (.aload_n 0, 1) := by decide +kernel
theorem d_M_freesChain_1 : decode (rm_code mM_freesChain) 1 = .ok (.invokevirtual 180, 3) := by decide +kernel
theorem d_M_freesChain_4 : decode (rm_code mM_freesChain) 4 = .ok (.istore_n 3, 1) := by decide +kernel
theorem d_M_freesChain_5 : decode (rm_code mM_freesChain) 5 = .ok (.iload_n 3, 1) := by decide +kernel
theorem d_M_freesChain_6 : decode (rm_code mM_freesChain) 6 = .ok (.ifCond .eq (5), 3) := by decide +kernel
theorem d_M_freesChain_9 : decode (rm_code mM_freesChain) 9 = .ok (.iload_n 3, 1) := by decide +kernel
theorem d_M_freesChain_10 : decode (rm_code mM_freesChain) 10 = .ok (.ireturn, 1) := by decide +kernel
theorem d_M_freesChain_11 : decode (rm_code mM_freesChain) 11 = .ok (.iload_n 1, 1) := by decide +kernel
theorem d_M_freesChain_12 : decode (rm_code mM_freesChain) 12 = .ok (.istore 4, 2) := by decide +kernel
theorem d_M_freesChain_14 : decode (rm_code mM_freesChain) 14 = .ok (.iload_n 2, 1) := by decide +kernel
theorem d_M_freesChain_15 : decode (rm_code mM_freesChain) 15 = .ok (.istore 5, 2) := by decide +kernel
theorem d_M_freesChain_17 : decode (rm_code mM_freesChain) 17 = .ok (.iconst 0, 1) := by decide +kernel
theorem d_M_freesChain_18 : decode (rm_code mM_freesChain) 18 = .ok (.istore 6, 2) := by decide +kernel
theorem d_M_freesChain_20 : decode (rm_code mM_freesChain) 20 = .ok (.iconst 1, 1) := by decide +kernel
theorem d_M_freesChain_21 : decode (rm_code mM_freesChain) 21 = .ok (.istore 7, 2) := by decide +kernel
theorem d_M_freesChain_23 : decode (rm_code mM_freesChain) 23 = .ok (.iload 7, 2) := by decide +kernel
theorem d_M_freesChain_25 : decode (rm_code mM_freesChain) 25 = .ok (.ifCond .eq (124), 3) := by decide +kernel
theorem d_M_freesChain_28 : decode (rm_code mM_freesChain) 28 = .ok (.iload 4, 2) := by decide +kernel
theorem d_M_freesChain_30 : decode (rm_code mM_freesChain) 30 = .ok (.iload 5, 2) := by decide +kernel
theorem d_M_freesChain_32 : decode (rm_code mM_freesChain) 32 = .ok (.invokestatic 161, 3) := by decide +kernel
theorem d_M_freesChain_35 : decode (rm_code mM_freesChain) 35 = .ok (.ifCond .eq (10), 3) := by decide +kernel
theorem d_M_freesChain_38 : decode (rm_code mM_freesChain) 38 = .ok (.iload 6, 2) := by decide +kernel
theorem d_M_freesChain_40 : decode (rm_code mM_freesChain) 40 = .ok (.bipush (72), 2) := by decide +kernel
theorem d_M_freesChain_42 : decode (rm_code mM_freesChain) 42 = .ok (.if_icmp .ne (20), 3) := by decide +kernel
theorem d_M_freesChain_45 : decode (rm_code mM_freesChain) 45 = .ok (.aload_n 0, 1) := by decide +kernel
theorem d_M_freesChain_46 : decode (rm_code mM_freesChain) 46 = .ok (.bipush (71), 2) := by decide +kernel
theorem d_M_freesChain_48 : decode (rm_code mM_freesChain) 48 = .ok (.iload 4, 2) := by decide +kernel
theorem d_M_freesChain_50 : decode (rm_code mM_freesChain) 50 = .ok (.iload 5, 2) := by decide +kernel
theorem d_M_freesChain_52 : decode (rm_code mM_freesChain) 52 = .ok (.invokevirtual 113, 3) := by decide +kernel
theorem d_M_freesChain_55 : decode (rm_code mM_freesChain) 55 = .ok (.istore_n 3, 1) := by decide +kernel
theorem d_M_freesChain_56 : decode (rm_code mM_freesChain) 56 = .ok (.iconst 0, 1) := by decide +kernel
theorem d_M_freesChain_57 : decode (rm_code mM_freesChain) 57 = .ok (.istore 7, 2) := by decide +kernel
theorem d_M_freesChain_59 : decode (rm_code mM_freesChain) 59 = .ok (.goto (-36), 3) := by decide +kernel
theorem d_M_freesChain_62 : decode (rm_code mM_freesChain) 62 = .ok (.aload_n 0, 1) := by decide +kernel
theorem d_M_freesChain_63 : decode (rm_code mM_freesChain) 63 = .ok (.iload 4, 2) := by decide +kernel
theorem d_M_freesChain_65 : decode (rm_code mM_freesChain) 65 = .ok (.iload 5, 2) := by decide +kernel
theorem d_M_freesChain_67 : decode (rm_code mM_freesChain) 67 = .ok (.invokevirtual 183, 3) := by decide +kernel
theorem d_M_freesChain_70 : decode (rm_code mM_freesChain) 70 = .ok (.aload_n 0, 1) := by decide +kernel
theorem d_M_freesChain_71 : decode (rm_code mM_freesChain) 71 = .ok (.iload 4, 2) := by decide +kernel
theorem d_M_freesChain_73 : decode (rm_code mM_freesChain) 73 = .ok (.iload 5, 2) := by decide +kernel
theorem d_M_freesChain_75 : decode (rm_code mM_freesChain) 75 = .ok (.aload_n 0, 1) := by decide +kernel
theorem d_M_freesChain_76 : decode (rm_code mM_freesChain) 76 = .ok (.getfield 186, 3) := by decide +kernel
theorem d_M_freesChain_79 : decode (rm_code mM_freesChain) 79 = .ok (.iconst 0, 1) := by decide +kernel
theorem d_M_freesChain_80 : decode (rm_code mM_freesChain) 80 = .ok (.invokevirtual 148, 3) := by decide +kernel
theorem d_M_freesChain_83 : decode (rm_code mM_freesChain) 83 = .ok (.istore_n 3, 1) := by decide +kernel
theorem d_M_freesChain_84 : decode (rm_code mM_freesChain) 84 = .ok (.iload 6, 2) := by decide +kernel
theorem d_M_freesChain_86 : decode (rm_code mM_freesChain) 86 = .ok (.iconst 1, 1) := by decide +kernel
theorem d_M_freesChain_87 : decode (rm_code mM_freesChain) 87 = .ok (.iadd, 1) := by decide +kernel
theorem d_M_freesChain_88 : decode (rm_code mM_freesChain) 88 = .ok (.istore 6, 2) := by decide +kernel
theorem d_M_freesChain_90 : decode (rm_code mM_freesChain) 90 = .ok (.iload_n 3, 1) := by decide +kernel
theorem d_M_freesChain_91 : decode (rm_code mM_freesChain) 91 = .ok (.ifCond .ne (16), 3) := by decide +kernel
theorem d_M_freesChain_94 : decode (rm_code mM_freesChain) 94 = .ok (.aload_n 0, 1) := by decide +kernel
theorem d_M_freesChain_95 : decode (rm_code mM_freesChain) 95 = .ok (.getfield 186, 3) := by decide +kernel
theorem d_M_freesChain_98 : decode (rm_code mM_freesChain) 98 = .ok (.iconst 0, 1) := by decide +kernel
theorem d_M_freesChain_99 : decode (rm_code mM_freesChain) 99 = .ok (.iaload, 1) := by decide +kernel
theorem d_M_freesChain_100 : decode (rm_code mM_freesChain) 100 = .ok (.ifCond .eq (7), 3) := by decide +kernel
theorem d_M_freesChain_103 : decode (rm_code mM_freesChain) 103 = .ok (.iconst 1, 1) := by decide +kernel
theorem d_M_freesChain_104 : decode (rm_code mM_freesChain) 104 = .ok (.goto (4), 3) := by decide +kernel
theorem d_M_freesChain_107 : decode (rm_code mM_freesChain) 107 = .ok (.iconst 0, 1) := by decide +kernel
theorem d_M_freesChain_108 : decode (rm_code mM_freesChain) 108 = .ok (.istore 7, 2) := by decide +kernel
theorem d_M_freesChain_110 : decode (rm_code mM_freesChain) 110 = .ok (.iload 7, 2) := by decide +kernel
theorem d_M_freesChain_112 : decode (rm_code mM_freesChain) 112 = .ok (.ifCond .eq (12), 3) := by decide +kernel
theorem d_M_freesChain_115 : decode (rm_code mM_freesChain) 115 = .ok (.aload_n 0, 1) := by decide +kernel
theorem d_M_freesChain_116 : decode (rm_code mM_freesChain) 116 = .ok (.getfield 186, 3) := by decide +kernel
theorem d_M_freesChain_119 : decode (rm_code mM_freesChain) 119 = .ok (.iconst 0, 1) := by decide +kernel
theorem d_M_freesChain_120 : decode (rm_code mM_freesChain) 120 = .ok (.iaload, 1) := by decide +kernel
theorem d_M_freesChain_121 : decode (rm_code mM_freesChain) 121 = .ok (.goto (5), 3) := by decide +kernel
theorem d_M_freesChain_124 : decode (rm_code mM_freesChain) 124 = .ok (.iload 4, 2) := by decide +kernel
theorem d_M_freesChain_126 : decode (rm_code mM_freesChain) 126 = .ok (.istore 4, 2) := by decide +kernel
theorem d_M_freesChain_128 : decode (rm_code mM_freesChain) 128 = .ok (.iload 7, 2) := by decide +kernel
theorem d_M_freesChain_130 : decode (rm_code mM_freesChain) 130 = .ok (.ifCond .eq (12), 3) := by decide +kernel
theorem d_M_freesChain_133 : decode (rm_code mM_freesChain) 133 = .ok (.aload_n 0, 1) := by decide +kernel
theorem d_M_freesChain_134 : decode (rm_code mM_freesChain) 134 = .ok (.getfield 186, 3) := by decide +kernel
theorem d_M_freesChain_137 : decode (rm_code mM_freesChain) 137 = .ok (.iconst 1, 1) := by decide +kernel
theorem d_M_freesChain_138 : decode (rm_code mM_freesChain) 138 = .ok (.iaload, 1) := by decide +kernel
theorem d_M_freesChain_139 : decode (rm_code mM_freesChain) 139 = .ok (.goto (5), 3) := by decide +kernel
theorem d_M_freesChain_142 : decode (rm_code mM_freesChain) 142 = .ok (.iload 5, 2) := by decide +kernel
theorem d_M_freesChain_144 : decode (rm_code mM_freesChain) 144 = .ok (.istore 5, 2) := by decide +kernel
theorem d_M_freesChain_146 : decode (rm_code mM_freesChain) 146 = .ok (.goto (-123), 3) := by decide +kernel
theorem d_M_freesChain_149 : decode (rm_code mM_freesChain) 149 = .ok (.aload_n 0, 1) := by decide +kernel
theorem d_M_freesChain_150 : decode (rm_code mM_freesChain) 150 = .ok (.getfield 7, 3) := by decide +kernel
theorem d_M_freesChain_153 : decode (rm_code mM_freesChain) 153 = .ok (.istore 8, 2) := by decide +kernel
theorem d_M_freesChain_155 : decode (rm_code mM_freesChain) 155 = .ok (.aload_n 0, 1) := by decide +kernel
theorem d_M_freesChain_156 : decode (rm_code mM_freesChain) 156 = .ok (.getfield 11, 3) := by decide +kernel
theorem d_M_freesChain_159 : decode (rm_code mM_freesChain) 159 = .ok (.istore 9, 2) := by decide +kernel
theorem d_M_freesChain_161 : decode (rm_code mM_freesChain) 161 = .ok (.aload_n 0, 1) := by decide +kernel
theorem d_M_freesChain_162 : decode (rm_code mM_freesChain) 162 = .ok (.invokevirtual 189, 3) := by decide +kernel
theorem d_M_freesChain_165 : decode (rm_code mM_freesChain) 165 = .ok (.istore 10, 2) := by decide +kernel
theorem d_M_freesChain_167 : decode (rm_code mM_freesChain) 167 = .ok (.iload_n 3, 1) := by decide +kernel
theorem d_M_freesChain_168 : decode (rm_code mM_freesChain) 168 = .ok (.ifCond .eq (15), 3) := by decide +kernel
theorem d_M_freesChain_171 : decode (rm_code mM_freesChain) 171 = .ok (.aload_n 0, 1) := by decide +kernel
theorem d_M_freesChain_172 : decode (rm_code mM_freesChain) 172 = .ok (.iload_n 3, 1) := by decide +kernel
theorem d_M_freesChain_173 : decode (rm_code mM_freesChain) 173 = .ok (.iload 8, 2) := by decide +kernel
theorem d_M_freesChain_175 : decode (rm_code mM_freesChain) 175 = .ok (.iload 9, 2) := by decide +kernel
theorem d_M_freesChain_177 : decode (rm_code mM_freesChain) 177 = .ok (.invokevirtual 113, 3) := by decide +kernel
theorem d_M_freesChain_180 : decode (rm_code mM_freesChain) 180 = .ok (.goto (5), 3) := by decide +kernel
theorem d_M_freesChain_183 : decode (rm_code mM_freesChain) 183 = .ok (.iload 10, 2) := by decide +kernel
theorem d_M_freesChain_185 : decode (rm_code mM_freesChain) 185 = .ok (.ireturn, 1) := by decide +kernel
theorem p_M_freesChain_0 {S : rz_S} {K : Int32 → rz_S → Prop} {a1 : Int32} {a2 : Int32} (w : rz_ev mM_loads [.ref 116] S (rz_i (fun xq1 Sq1 => ((xq1 = 0 → rz mM_freesChain 23 [(0, .ref 116), (3, .int xq1), (4, .int a1), (5, .int a2), (6, .int 0), (7, .int 1)] [] Sq1 (rz_i K)) ∧ (¬ xq1 = 0 → K xq1 Sq1))))) : rz mM_freesChain 0 [(0, .ref 116), (1, .int a1), (2, .int a2)] [] S (rz_i K) := by
  refine rz_pure (pc' := 1) d_M_freesChain_0 rfl ?_
  refine rz_callVi (t := []) d_M_freesChain_1 w_12_180 rfl rfl rfl w (fun xq1 Sq1 q1 => ?_)
  refine rz_pure (pc' := 5) (l' := [(3, .int xq1), (0, .ref 116), (1, .int a1), (2, .int a2)]) d_M_freesChain_4 rfl ?_
  refine rz_pure (pc' := 6) d_M_freesChain_5 rfl ?_
  refine rz_ifeq (tgt := 11) d_M_freesChain_6 rfl (fun b2 => ?_) (fun b2 => ?_)
  · skip
    refine rz_pure (pc' := 12) d_M_freesChain_11 rfl ?_
    refine rz_pure (pc' := 14) (l' := [(4, .int a1), (3, .int xq1), (0, .ref 116), (1, .int a1), (2, .int a2)]) d_M_freesChain_12 rfl ?_
    refine rz_pure (pc' := 15) d_M_freesChain_14 rfl ?_
    refine rz_pure (pc' := 17) (l' := [(5, .int a2), (4, .int a1), (3, .int xq1), (0, .ref 116), (1, .int a1), (2, .int a2)]) d_M_freesChain_15 rfl ?_
    refine rz_iconst (v := 0) d_M_freesChain_17 (by decide) ?_
    refine rz_pure (pc' := 20) (l' := [(6, .int 0), (5, .int a2), (4, .int a1), (3, .int xq1), (0, .ref 116), (1, .int a1), (2, .int a2)]) d_M_freesChain_18 rfl ?_
    refine rz_iconst (v := 1) d_M_freesChain_20 (by decide) ?_
    refine rz_pure (pc' := 23) (l' := [(7, .int 1), (6, .int 0), (5, .int a2), (4, .int a1), (3, .int xq1), (0, .ref 116), (1, .int a1), (2, .int a2)]) d_M_freesChain_21 rfl ?_
    exact rz_pick (ks := [0, 3, 4, 5, 6, 7]) (l := [(0, .ref 116), (3, .int xq1), (4, .int a1), (5, .int a2), (6, .int 0), (7, .int 1)]) rfl rfl (by decide) rfl (q1.1 b2)
  · skip
    refine rz_pure (pc' := 10) d_M_freesChain_9 rfl ?_
    exact rz_ireti d_M_freesChain_10 rfl rfl (q1.2 b2)
theorem p_M_freesChain_23 {S : rz_S} {K : Int32 → rz_S → Prop} {a3 : Int32} {a4 : Int32} {a5 : Int32} {a6 : Int32} {a7 : Int32} (w : ((a7 = 0 → rz_ev mM_stores [.ref 116] S (rz_i (fun xq2 Sq2 => ((a3 = 0 → K xq2 Sq2) ∧ (¬ a3 = 0 → rz_ev mM_fault [.ref 116, .int a3, .int (S.2 116 4), .int (S.2 116 5)] Sq2 (rz_i (fun xq4 Sq4 => K xq4 Sq4))))))) ∧ (¬ a7 = 0 → rz_ev mM_isLegal [.int a4, .int a5] S (rz_i (fun xq5 Sq5 => ((xq5 = 0 → rz mM_freesChain 45 [(0, .ref 116), (4, .int a4), (5, .int a5), (6, .int a6)] [] Sq5 (rz_i K)) ∧ (¬ xq5 = 0 → ((a6 = 72 → rz mM_freesChain 45 [(0, .ref 116), (4, .int a4), (5, .int a5), (6, .int a6)] [] Sq5 (rz_i K)) ∧ (¬ a6 = 72 → rz_ev mM_givesBack [.ref 116, .int a4, .int a5] Sq5 (rz_v (fun Sq8 => rz_ev mM_readBlock [.ref 116, .int a4, .int a5, .ref 125, .int 0] Sq8 (rz_i (fun xq9 Sq9 => ((xq9 = 0 → ((Sq9.1 125 0 = 0 → rz mM_freesChain 107 [(0, .ref 116), (3, .int xq9), (4, .int a4), (5, .int a5), (6, .int (a6 + 1))] [] Sq9 (rz_i K)) ∧ (¬ Sq9.1 125 0 = 0 → rz mM_freesChain 108 [(0, .ref 116), (3, .int xq9), (4, .int a4), (5, .int a5), (6, .int (a6 + 1))] [.int 1] Sq9 (rz_i K)))) ∧ (¬ xq9 = 0 → rz mM_freesChain 107 [(0, .ref 116), (3, .int xq9), (4, .int a4), (5, .int a5), (6, .int (a6 + 1))] [] Sq9 (rz_i K)))))))))))))))) : rz mM_freesChain 23 [(0, .ref 116), (3, .int a3), (4, .int a4), (5, .int a5), (6, .int a6), (7, .int a7)] [] S (rz_i K) := by
  refine rz_pure (pc' := 25) d_M_freesChain_23 rfl ?_
  refine rz_ifeq (tgt := 149) d_M_freesChain_25 rfl (fun b1 => ?_) (fun b1 => ?_)
  · skip
    refine rz_pure (pc' := 150) d_M_freesChain_149 rfl ?_
    refine rz_getiv (v := S.2 116 4) d_M_freesChain_150 f_12_7 rfl rfl rfl ?_
    refine rz_pure (pc' := 155) (l' := [(8, .int (S.2 116 4)), (0, .ref 116), (3, .int a3), (4, .int a4), (5, .int a5), (6, .int a6), (7, .int a7)]) d_M_freesChain_153 rfl ?_
    refine rz_pure (pc' := 156) d_M_freesChain_155 rfl ?_
    refine rz_getiv (v := S.2 116 5) d_M_freesChain_156 f_12_11 rfl rfl rfl ?_
    refine rz_pure (pc' := 161) (l' := [(9, .int (S.2 116 5)), (8, .int (S.2 116 4)), (0, .ref 116), (3, .int a3), (4, .int a4), (5, .int a5), (6, .int a6), (7, .int a7)]) d_M_freesChain_159 rfl ?_
    refine rz_pure (pc' := 162) d_M_freesChain_161 rfl ?_
    refine rz_callVi (t := []) d_M_freesChain_162 w_12_189 rfl rfl rfl (w.1 b1) (fun xq2 Sq2 q2 => ?_)
    refine rz_pure (pc' := 167) (l' := [(10, .int xq2), (9, .int (S.2 116 5)), (8, .int (S.2 116 4)), (0, .ref 116), (3, .int a3), (4, .int a4), (5, .int a5), (6, .int a6), (7, .int a7)]) d_M_freesChain_165 rfl ?_
    refine rz_pure (pc' := 168) d_M_freesChain_167 rfl ?_
    refine rz_ifeq (tgt := 183) d_M_freesChain_168 rfl (fun b3 => ?_) (fun b3 => ?_)
    · skip
      refine rz_pure (pc' := 185) d_M_freesChain_183 rfl ?_
      exact rz_ireti d_M_freesChain_185 rfl rfl (q2.1 b3)
    · skip
      refine rz_pure (pc' := 172) d_M_freesChain_171 rfl ?_
      refine rz_pure (pc' := 173) d_M_freesChain_172 rfl ?_
      refine rz_pure (pc' := 175) d_M_freesChain_173 rfl ?_
      refine rz_pure (pc' := 177) d_M_freesChain_175 rfl ?_
      refine rz_callVi (t := [.int (S.2 116 5), .int (S.2 116 4), .int a3]) d_M_freesChain_177 w_12_113 rfl rfl rfl (q2.2 b3) (fun xq4 Sq4 q4 => ?_)
      refine rz_pure (pc' := 185) d_M_freesChain_180 rfl ?_
      exact rz_ireti d_M_freesChain_185 rfl rfl q4
  · skip
    refine rz_pure (pc' := 30) d_M_freesChain_28 rfl ?_
    refine rz_pure (pc' := 32) d_M_freesChain_30 rfl ?_
    refine rz_callSi (t := [.int a5, .int a4]) d_M_freesChain_32 rfl w_12_161 rfl rfl (w.2 b1) (fun xq5 Sq5 q5 => ?_)
    refine rz_ifeq (tgt := 45) d_M_freesChain_35 rfl (fun b6 => ?_) (fun b6 => ?_)
    · skip
      exact rz_pick (ks := [0, 4, 5, 6]) (l := [(0, .ref 116), (4, .int a4), (5, .int a5), (6, .int a6)]) rfl rfl (by decide) rfl (q5.1 b6)
    · skip
      refine rz_pure (pc' := 40) d_M_freesChain_38 rfl ?_
      refine rz_bipush (v := 72) d_M_freesChain_40 (by decide) ?_
      refine rz_icmpne (tgt := 62) d_M_freesChain_42 rfl (fun b7 => ?_) (fun b7 => ?_)
      · skip
        refine rz_pure (pc' := 63) d_M_freesChain_62 rfl ?_
        refine rz_pure (pc' := 65) d_M_freesChain_63 rfl ?_
        refine rz_pure (pc' := 67) d_M_freesChain_65 rfl ?_
        refine rz_callVv (t := [.int a5, .int a4]) d_M_freesChain_67 w_12_183 rfl rfl rfl ((q5.2 b6).2 b7) (fun Sq8 q8 => ?_)
        refine rz_pure (pc' := 71) d_M_freesChain_70 rfl ?_
        refine rz_pure (pc' := 73) d_M_freesChain_71 rfl ?_
        refine rz_pure (pc' := 75) d_M_freesChain_73 rfl ?_
        refine rz_pure (pc' := 76) d_M_freesChain_75 rfl ?_
        refine rz_getr d_M_freesChain_76 f_12_186 rfl rfl ?_
        refine rz_iconst (v := 0) d_M_freesChain_79 (by decide) ?_
        refine rz_callVi (t := [.int 0, .ref 125, .int a5, .int a4]) d_M_freesChain_80 w_12_148 rfl rfl rfl q8 (fun xq9 Sq9 q9 => ?_)
        refine rz_pure (pc' := 84) (l' := [(3, .int xq9), (0, .ref 116), (4, .int a4), (5, .int a5), (6, .int a6), (7, .int a7)]) d_M_freesChain_83 rfl ?_
        refine rz_pure (pc' := 86) d_M_freesChain_84 rfl ?_
        refine rz_iconst (v := 1) d_M_freesChain_86 (by decide) ?_
        refine rz_iadd d_M_freesChain_87 ?_
        refine rz_pure (pc' := 90) (l' := [(6, .int (a6 + 1)), (3, .int xq9), (0, .ref 116), (4, .int a4), (5, .int a5), (7, .int a7)]) d_M_freesChain_88 rfl ?_
        refine rz_pure (pc' := 91) d_M_freesChain_90 rfl ?_
        refine rz_ifne (tgt := 107) d_M_freesChain_91 rfl (fun b10 => ?_) (fun b10 => ?_)
        · skip
          exact rz_pick (ks := [0, 3, 4, 5, 6]) (l := [(0, .ref 116), (3, .int xq9), (4, .int a4), (5, .int a5), (6, .int (a6 + 1))]) rfl rfl (by decide) rfl (q9.2 b10)
        · skip
          refine rz_pure (pc' := 95) d_M_freesChain_94 rfl ?_
          refine rz_getr d_M_freesChain_95 f_12_186 rfl rfl ?_
          refine rz_iconst (v := 0) d_M_freesChain_98 (by decide) ?_
          refine rz_ialdv (F := Sq9.1 125) (i := 0) d_M_freesChain_99 rfl (by decide) rfl (by decide) ?_
          refine rz_ifeq (tgt := 107) d_M_freesChain_100 rfl (fun b11 => ?_) (fun b11 => ?_)
          · skip
            exact rz_pick (ks := [0, 3, 4, 5, 6]) (l := [(0, .ref 116), (3, .int xq9), (4, .int a4), (5, .int a5), (6, .int (a6 + 1))]) rfl rfl (by decide) rfl ((q9.1 b10).1 b11)
          · skip
            refine rz_iconst (v := 1) d_M_freesChain_103 (by decide) ?_
            refine rz_pure (pc' := 108) d_M_freesChain_104 rfl ?_
            exact rz_pick (ks := [0, 3, 4, 5, 6]) (l := [(0, .ref 116), (3, .int xq9), (4, .int a4), (5, .int a5), (6, .int (a6 + 1))]) rfl rfl (by decide) rfl ((q9.1 b10).2 b11)
      · skip
        exact rz_pick (ks := [0, 4, 5, 6]) (l := [(0, .ref 116), (4, .int a4), (5, .int a5), (6, .int a6)]) rfl rfl (by decide) rfl ((q5.2 b6).1 b7)
theorem p_M_freesChain_45 {S : rz_S} {K : Int32 → rz_S → Prop} {a4 : Int32} {a5 : Int32} {a6 : Int32} (w : rz_ev mM_fault [.ref 116, .int 71, .int a4, .int a5] S (rz_i (fun xq1 Sq1 => rz mM_freesChain 23 [(0, .ref 116), (3, .int xq1), (4, .int a4), (5, .int a5), (6, .int a6), (7, .int 0)] [] Sq1 (rz_i K)))) : rz mM_freesChain 45 [(0, .ref 116), (4, .int a4), (5, .int a5), (6, .int a6)] [] S (rz_i K) := by
  refine rz_pure (pc' := 46) d_M_freesChain_45 rfl ?_
  refine rz_bipush (v := 71) d_M_freesChain_46 (by decide) ?_
  refine rz_pure (pc' := 50) d_M_freesChain_48 rfl ?_
  refine rz_pure (pc' := 52) d_M_freesChain_50 rfl ?_
  refine rz_callVi (t := [.int a5, .int a4, .int 71]) d_M_freesChain_52 w_12_113 rfl rfl rfl w (fun xq1 Sq1 q1 => ?_)
  refine rz_pure (pc' := 56) (l' := [(3, .int xq1), (0, .ref 116), (4, .int a4), (5, .int a5), (6, .int a6)]) d_M_freesChain_55 rfl ?_
  refine rz_iconst (v := 0) d_M_freesChain_56 (by decide) ?_
  refine rz_pure (pc' := 59) (l' := [(7, .int 0), (3, .int xq1), (0, .ref 116), (4, .int a4), (5, .int a5), (6, .int a6)]) d_M_freesChain_57 rfl ?_
  refine rz_pure (pc' := 23) d_M_freesChain_59 rfl ?_
  exact rz_pick (ks := [0, 3, 4, 5, 6, 7]) (l := [(0, .ref 116), (3, .int xq1), (4, .int a4), (5, .int a5), (6, .int a6), (7, .int 0)]) rfl rfl (by decide) rfl q1
theorem p_M_freesChain_107 {S : rz_S} {K : Int32 → rz_S → Prop} {a3 : Int32} {a4 : Int32} {a5 : Int32} {a6 : Int32} (w : rz mM_freesChain 108 [(0, .ref 116), (3, .int a3), (4, .int a4), (5, .int a5), (6, .int a6)] [.int 0] S (rz_i K)) : rz mM_freesChain 107 [(0, .ref 116), (3, .int a3), (4, .int a4), (5, .int a5), (6, .int a6)] [] S (rz_i K) := by
  refine rz_iconst (v := 0) d_M_freesChain_107 (by decide) ?_
  exact rz_pick (ks := [0, 3, 4, 5, 6]) (l := [(0, .ref 116), (3, .int a3), (4, .int a4), (5, .int a5), (6, .int a6)]) rfl rfl (by decide) rfl w
theorem p_M_freesChain_108 {S : rz_S} {K : Int32 → rz_S → Prop} {a3 : Int32} {a4 : Int32} {a5 : Int32} {a6 : Int32} {s0 : Int32} (w : ((s0 = 0 → rz mM_freesChain 126 [(0, .ref 116), (3, .int a3), (5, .int a5), (6, .int a6), (7, .int s0)] [.int a4] S (rz_i K)) ∧ (¬ s0 = 0 → rz mM_freesChain 126 [(0, .ref 116), (3, .int a3), (5, .int a5), (6, .int a6), (7, .int s0)] [.int (S.1 125 0)] S (rz_i K)))) : rz mM_freesChain 108 [(0, .ref 116), (3, .int a3), (4, .int a4), (5, .int a5), (6, .int a6)] [.int s0] S (rz_i K) := by
  refine rz_pure (pc' := 110) (l' := [(7, .int s0), (0, .ref 116), (3, .int a3), (4, .int a4), (5, .int a5), (6, .int a6)]) d_M_freesChain_108 rfl ?_
  refine rz_pure (pc' := 112) d_M_freesChain_110 rfl ?_
  refine rz_ifeq (tgt := 124) d_M_freesChain_112 rfl (fun b1 => ?_) (fun b1 => ?_)
  · skip
    refine rz_pure (pc' := 126) d_M_freesChain_124 rfl ?_
    exact rz_pick (ks := [0, 3, 5, 6, 7]) (l := [(0, .ref 116), (3, .int a3), (5, .int a5), (6, .int a6), (7, .int s0)]) rfl rfl (by decide) rfl (w.1 b1)
  · skip
    refine rz_pure (pc' := 116) d_M_freesChain_115 rfl ?_
    refine rz_getr d_M_freesChain_116 f_12_186 rfl rfl ?_
    refine rz_iconst (v := 0) d_M_freesChain_119 (by decide) ?_
    refine rz_ialdv (F := S.1 125) (i := 0) d_M_freesChain_120 rfl (by decide) rfl (by decide) ?_
    refine rz_pure (pc' := 126) d_M_freesChain_121 rfl ?_
    exact rz_pick (ks := [0, 3, 5, 6, 7]) (l := [(0, .ref 116), (3, .int a3), (5, .int a5), (6, .int a6), (7, .int s0)]) rfl rfl (by decide) rfl (w.2 b1)
theorem p_M_freesChain_126 {S : rz_S} {K : Int32 → rz_S → Prop} {a3 : Int32} {a5 : Int32} {a6 : Int32} {a7 : Int32} {s0 : Int32} (w : ((a7 = 0 → rz mM_freesChain 23 [(0, .ref 116), (3, .int a3), (4, .int s0), (5, .int a5), (6, .int a6), (7, .int a7)] [] S (rz_i K)) ∧ (¬ a7 = 0 → rz mM_freesChain 23 [(0, .ref 116), (3, .int a3), (4, .int s0), (5, .int (S.1 125 1)), (6, .int a6), (7, .int a7)] [] S (rz_i K)))) : rz mM_freesChain 126 [(0, .ref 116), (3, .int a3), (5, .int a5), (6, .int a6), (7, .int a7)] [.int s0] S (rz_i K) := by
  refine rz_pure (pc' := 128) (l' := [(4, .int s0), (0, .ref 116), (3, .int a3), (5, .int a5), (6, .int a6), (7, .int a7)]) d_M_freesChain_126 rfl ?_
  refine rz_pure (pc' := 130) d_M_freesChain_128 rfl ?_
  refine rz_ifeq (tgt := 142) d_M_freesChain_130 rfl (fun b1 => ?_) (fun b1 => ?_)
  · skip
    refine rz_pure (pc' := 144) d_M_freesChain_142 rfl ?_
    refine rz_pure (pc' := 146) (l' := [(5, .int a5), (4, .int s0), (0, .ref 116), (3, .int a3), (6, .int a6), (7, .int a7)]) d_M_freesChain_144 rfl ?_
    refine rz_pure (pc' := 23) d_M_freesChain_146 rfl ?_
    exact rz_pick (ks := [0, 3, 4, 5, 6, 7]) (l := [(0, .ref 116), (3, .int a3), (4, .int s0), (5, .int a5), (6, .int a6), (7, .int a7)]) rfl rfl (by decide) rfl (w.1 b1)
  · skip
    refine rz_pure (pc' := 134) d_M_freesChain_133 rfl ?_
    refine rz_getr d_M_freesChain_134 f_12_186 rfl rfl ?_
    refine rz_iconst (v := 1) d_M_freesChain_137 (by decide) ?_
    refine rz_ialdv (F := S.1 125) (i := 1) d_M_freesChain_138 rfl (by decide) rfl (by decide) ?_
    refine rz_pure (pc' := 144) d_M_freesChain_139 rfl ?_
    refine rz_pure (pc' := 146) (l' := [(5, .int (S.1 125 1)), (4, .int s0), (0, .ref 116), (3, .int a3), (6, .int a6), (7, .int a7)]) d_M_freesChain_144 rfl ?_
    refine rz_pure (pc' := 23) d_M_freesChain_146 rfl ?_
    exact rz_pick (ks := [0, 3, 4, 5, 6, 7]) (l := [(0, .ref 116), (3, .int a3), (4, .int s0), (5, .int (S.1 125 1)), (6, .int a6), (7, .int a7)]) rfl rfl (by decide) rfl (w.2 b1)
theorem d_M_fits_0 : decode (rm_code mM_fits) 0 = .ok (.iconst 0, 1) := by decide +kernel
theorem d_M_fits_1 : decode (rm_code mM_fits) 1 = .ok (.istore 5, 2) := by decide +kernel
theorem d_M_fits_3 : decode (rm_code mM_fits) 3 = .ok (.iload 5, 2) := by decide +kernel
theorem d_M_fits_5 : decode (rm_code mM_fits) 5 = .ok (.iload_n 2, 1) := by decide +kernel
theorem d_M_fits_6 : decode (rm_code mM_fits) 6 = .ok (.if_icmp .ge (63), 3) := by decide +kernel
theorem d_M_fits_9 : decode (rm_code mM_fits) 9 = .ok (.aload_n 0, 1) := by decide +kernel
theorem d_M_fits_10 : decode (rm_code mM_fits) 10 = .ok (.iload_n 1, 1) := by decide +kernel
theorem d_M_fits_11 : decode (rm_code mM_fits) 11 = .ok (.iload 5, 2) := by decide +kernel
theorem d_M_fits_13 : decode (rm_code mM_fits) 13 = .ok (.iadd, 1) := by decide +kernel
theorem d_M_fits_14 : decode (rm_code mM_fits) 14 = .ok (.iaload, 1) := by decide +kernel
theorem d_M_fits_15 : decode (rm_code mM_fits) 15 = .ok (.istore 6, 2) := by decide +kernel
theorem d_M_fits_17 : decode (rm_code mM_fits) 17 = .ok (.iload 6, 2) := by decide +kernel
theorem d_M_fits_19 : decode (rm_code mM_fits) 19 = .ok (.bipush (42), 2) := by decide +kernel
theorem d_M_fits_21 : decode (rm_code mM_fits) 21 = .ok (.if_icmp .ne (5), 3) := by decide +kernel
theorem d_M_fits_24 : decode (rm_code mM_fits) 24 = .ok (.iconst 1, 1) := by decide +kernel
theorem d_M_fits_25 : decode (rm_code mM_fits) 25 = .ok (.ireturn, 1) := by decide +kernel
theorem d_M_fits_26 : decode (rm_code mM_fits) 26 = .ok (.iload 6, 2) := by decide +kernel
theorem d_M_fits_28 : decode (rm_code mM_fits) 28 = .ok (.bipush (63), 2) := by decide +kernel
theorem d_M_fits_30 : decode (rm_code mM_fits) 30 = .ok (.if_icmp .ne (19), 3) := by decide +kernel
theorem d_M_fits_33 : decode (rm_code mM_fits) 33 = .ok (.aload_n 3, 1) := by decide +kernel
theorem d_M_fits_34 : decode (rm_code mM_fits) 34 = .ok (.iload 4, 2) := by decide +kernel
theorem d_M_fits_36 : decode (rm_code mM_fits) 36 = .ok (.iload 5, 2) := by decide +kernel
theorem d_M_fits_38 : decode (rm_code mM_fits) 38 = .ok (.iadd, 1) := by decide +kernel
theorem d_M_fits_39 : decode (rm_code mM_fits) 39 = .ok (.iaload, 1) := by decide +kernel
theorem d_M_fits_40 : decode (rm_code mM_fits) 40 = .ok (.sipush (160), 3) := by decide +kernel
theorem d_M_fits_43 : decode (rm_code mM_fits) 43 = .ok (.if_icmp .ne (20), 3) := by decide +kernel
theorem d_M_fits_46 : decode (rm_code mM_fits) 46 = .ok (.goto (15), 3) := by decide +kernel
theorem d_M_fits_49 : decode (rm_code mM_fits) 49 = .ok (.aload_n 3, 1) := by decide +kernel
theorem d_M_fits_50 : decode (rm_code mM_fits) 50 = .ok (.iload 4, 2) := by decide +kernel
theorem d_M_fits_52 : decode (rm_code mM_fits) 52 = .ok (.iload 5, 2) := by decide +kernel
theorem d_M_fits_54 : decode (rm_code mM_fits) 54 = .ok (.iadd, 1) := by decide +kernel
theorem d_M_fits_55 : decode (rm_code mM_fits) 55 = .ok (.iaload, 1) := by decide +kernel
theorem d_M_fits_56 : decode (rm_code mM_fits) 56 = .ok (.iload 6, 2) := by decide +kernel
theorem d_M_fits_58 : decode (rm_code mM_fits) 58 = .ok (.if_icmp .eq (5), 3) := by decide +kernel
theorem d_M_fits_61 : decode (rm_code mM_fits) 61 = .ok (.iconst 0, 1) := by decide +kernel
theorem d_M_fits_62 : decode (rm_code mM_fits) 62 = .ok (.ireturn, 1) := by decide +kernel
theorem d_M_fits_63 : decode (rm_code mM_fits) 63 = .ok (.iinc 5 (1), 3) := by decide +kernel
theorem d_M_fits_66 : decode (rm_code mM_fits) 66 = .ok (.goto (-63), 3) := by decide +kernel
theorem d_M_fits_69 : decode (rm_code mM_fits) 69 = .ok (.iload_n 2, 1) := by decide +kernel
theorem d_M_fits_70 : decode (rm_code mM_fits) 70 = .ok (.bipush (10), 2) := by decide +kernel
theorem d_M_fits_72 : decode (rm_code mM_fits) 72 = .ok (.if_icmp .eq (15), 3) := by decide +kernel
theorem d_M_fits_75 : decode (rm_code mM_fits) 75 = .ok (.aload_n 3, 1) := by decide +kernel
theorem d_M_fits_76 : decode (rm_code mM_fits) 76 = .ok (.iload 4, 2) := by decide +kernel
theorem d_M_fits_78 : decode (rm_code mM_fits) 78 = .ok (.iload_n 2, 1) := by decide +kernel
theorem d_M_fits_79 : decode (rm_code mM_fits) 79 = .ok (.iadd, 1) := by decide +kernel
theorem d_M_fits_80 : decode (rm_code mM_fits) 80 = .ok (.iaload, 1) := by decide +kernel
theorem d_M_fits_81 : decode (rm_code mM_fits) 81 = .ok (.sipush (160), 3) := by decide +kernel
theorem d_M_fits_84 : decode (rm_code mM_fits) 84 = .ok (.if_icmp .ne (7), 3) := by decide +kernel
theorem d_M_fits_87 : decode (rm_code mM_fits) 87 = .ok (.iconst 1, 1) := by decide +kernel
theorem d_M_fits_88 : decode (rm_code mM_fits) 88 = .ok (.goto (4), 3) := by decide +kernel
theorem d_M_fits_91 : decode (rm_code mM_fits) 91 = .ok (.iconst 0, 1) := by decide +kernel
theorem d_M_fits_92 : decode (rm_code mM_fits) 92 = .ok (.ireturn, 1) := by decide +kernel
theorem p_M_fits_0 {S : rz_S} {K : Int32 → rz_S → Prop} {a0 na0 : Nat} (ha0 : rz_T[a0]? = some (.inl (0, na0))) {a1 : Int32} {a2 : Int32} {a3 na3 : Nat} (ha3 : rz_T[a3]? = some (.inl (0, na3))) {a4 : Int32} (w : rz mM_fits 3 [(0, .ref a0), (1, .int a1), (2, .int a2), (3, .ref a3), (4, .int a4), (5, .int 0)] [] S (rz_i K)) : rz mM_fits 0 [(0, .ref a0), (1, .int a1), (2, .int a2), (3, .ref a3), (4, .int a4)] [] S (rz_i K) := by
  refine rz_iconst (v := 0) d_M_fits_0 (by decide) ?_
  refine rz_pure (pc' := 3) (l' := [(5, .int 0), (0, .ref a0), (1, .int a1), (2, .int a2), (3, .ref a3), (4, .int a4)]) d_M_fits_1 rfl ?_
  exact rz_pick (ks := [0, 1, 2, 3, 4, 5]) (l := [(0, .ref a0), (1, .int a1), (2, .int a2), (3, .ref a3), (4, .int a4), (5, .int 0)]) rfl rfl (by decide) rfl w
theorem p_M_fits_3 {S : rz_S} {K : Int32 → rz_S → Prop} {a0 na0 : Nat} (ha0 : rz_T[a0]? = some (.inl (0, na0))) {a1 : Int32} {a2 : Int32} {a3 na3 : Nat} (ha3 : rz_T[a3]? = some (.inl (0, na3))) {a4 : Int32} {a5 : Int32} (w : ((a2 ≤ a5 → ((a2 = 10 → K 1 S) ∧ (¬ a2 = 10 → rx_in (a4 + a2) na3 = true ∧ ((S.1 a3 ((a4 + a2).toNatClampNeg) = 160 → K 1 S) ∧ (¬ S.1 a3 ((a4 + a2).toNatClampNeg) = 160 → K 0 S))))) ∧ (¬ a2 ≤ a5 → rx_in (a1 + a5) na0 = true ∧ ((S.1 a0 ((a1 + a5).toNatClampNeg) = 42 → K 1 S) ∧ (¬ S.1 a0 ((a1 + a5).toNatClampNeg) = 42 → ((S.1 a0 ((a1 + a5).toNatClampNeg) = 63 → rx_in (a4 + a5) na3 = true ∧ ((S.1 a3 ((a4 + a5).toNatClampNeg) = 160 → K 0 S) ∧ (¬ S.1 a3 ((a4 + a5).toNatClampNeg) = 160 → rz mM_fits 3 [(0, .ref a0), (1, .int a1), (2, .int a2), (3, .ref a3), (4, .int a4), (5, .int (a5 + 1))] [] S (rz_i K)))) ∧ (¬ S.1 a0 ((a1 + a5).toNatClampNeg) = 63 → rx_in (a4 + a5) na3 = true ∧ ((S.1 a3 ((a4 + a5).toNatClampNeg) = S.1 a0 ((a1 + a5).toNatClampNeg) → rz mM_fits 3 [(0, .ref a0), (1, .int a1), (2, .int a2), (3, .ref a3), (4, .int a4), (5, .int (a5 + 1))] [] S (rz_i K)) ∧ (¬ S.1 a3 ((a4 + a5).toNatClampNeg) = S.1 a0 ((a1 + a5).toNatClampNeg) → K 0 S))))))))) : rz mM_fits 3 [(0, .ref a0), (1, .int a1), (2, .int a2), (3, .ref a3), (4, .int a4), (5, .int a5)] [] S (rz_i K) := by
  refine rz_pure (pc' := 5) d_M_fits_3 rfl ?_
  refine rz_pure (pc' := 6) d_M_fits_5 rfl ?_
  refine rz_icmpge (tgt := 69) d_M_fits_6 rfl (fun b1 => ?_) (fun b1 => ?_)
  · skip
    refine rz_pure (pc' := 70) d_M_fits_69 rfl ?_
    refine rz_bipush (v := 10) d_M_fits_70 (by decide) ?_
    refine rz_icmpeq (tgt := 87) d_M_fits_72 rfl (fun b2 => ?_) (fun b2 => ?_)
    · skip
      refine rz_iconst (v := 1) d_M_fits_87 (by decide) ?_
      refine rz_pure (pc' := 92) d_M_fits_88 rfl ?_
      exact rz_ireti d_M_fits_92 rfl (by decide) ((w.1 b1).1 b2)
    · skip
      refine rz_pure (pc' := 76) d_M_fits_75 rfl ?_
      refine rz_pure (pc' := 78) d_M_fits_76 rfl ?_
      refine rz_pure (pc' := 79) d_M_fits_78 rfl ?_
      refine rz_iadd d_M_fits_79 ?_
      refine rz_ialdv (F := S.1 a3) (i := (a4 + a2).toNatClampNeg) d_M_fits_80 (ha3) ((w.1 b1).2 b2).1 rfl rfl ?_
      refine rz_sipush (v := 160) d_M_fits_81 (by decide) ?_
      refine rz_icmpne (tgt := 91) d_M_fits_84 rfl (fun b3 => ?_) (fun b3 => ?_)
      · skip
        refine rz_iconst (v := 0) d_M_fits_91 (by decide) ?_
        exact rz_ireti d_M_fits_92 rfl (by decide) (((w.1 b1).2 b2).2.2 b3)
      · skip
        refine rz_iconst (v := 1) d_M_fits_87 (by decide) ?_
        refine rz_pure (pc' := 92) d_M_fits_88 rfl ?_
        exact rz_ireti d_M_fits_92 rfl (by decide) (((w.1 b1).2 b2).2.1 b3)
  · skip
    refine rz_pure (pc' := 10) d_M_fits_9 rfl ?_
    refine rz_pure (pc' := 11) d_M_fits_10 rfl ?_
    refine rz_pure (pc' := 13) d_M_fits_11 rfl ?_
    refine rz_iadd d_M_fits_13 ?_
    refine rz_ialdv (F := S.1 a0) (i := (a1 + a5).toNatClampNeg) d_M_fits_14 (ha0) (w.2 b1).1 rfl rfl ?_
    refine rz_pure (pc' := 17) (l' := [(6, .int (S.1 a0 ((a1 + a5).toNatClampNeg))), (0, .ref a0), (1, .int a1), (2, .int a2), (3, .ref a3), (4, .int a4), (5, .int a5)]) d_M_fits_15 rfl ?_
    refine rz_pure (pc' := 19) d_M_fits_17 rfl ?_
    refine rz_bipush (v := 42) d_M_fits_19 (by decide) ?_
    refine rz_icmpne (tgt := 26) d_M_fits_21 rfl (fun b4 => ?_) (fun b4 => ?_)
    · skip
      refine rz_pure (pc' := 28) d_M_fits_26 rfl ?_
      refine rz_bipush (v := 63) d_M_fits_28 (by decide) ?_
      refine rz_icmpne (tgt := 49) d_M_fits_30 rfl (fun b5 => ?_) (fun b5 => ?_)
      · skip
        refine rz_pure (pc' := 50) d_M_fits_49 rfl ?_
        refine rz_pure (pc' := 52) d_M_fits_50 rfl ?_
        refine rz_pure (pc' := 54) d_M_fits_52 rfl ?_
        refine rz_iadd d_M_fits_54 ?_
        refine rz_ialdv (F := S.1 a3) (i := (a4 + a5).toNatClampNeg) d_M_fits_55 (ha3) (((w.2 b1).2.2 b4).2 b5).1 rfl rfl ?_
        refine rz_pure (pc' := 58) d_M_fits_56 rfl ?_
        refine rz_icmpeq (tgt := 63) d_M_fits_58 rfl (fun b6 => ?_) (fun b6 => ?_)
        · skip
          refine rz_pure (pc' := 66) (l' := [(5, .int (a5 + 1)), (6, .int (S.1 a0 ((a1 + a5).toNatClampNeg))), (0, .ref a0), (1, .int a1), (2, .int a2), (3, .ref a3), (4, .int a4)]) d_M_fits_63 rfl ?_
          refine rz_pure (pc' := 3) d_M_fits_66 rfl ?_
          exact rz_pick (ks := [0, 1, 2, 3, 4, 5]) (l := [(0, .ref a0), (1, .int a1), (2, .int a2), (3, .ref a3), (4, .int a4), (5, .int (a5 + 1))]) rfl rfl (by decide) rfl ((((w.2 b1).2.2 b4).2 b5).2.1 b6)
        · skip
          refine rz_iconst (v := 0) d_M_fits_61 (by decide) ?_
          exact rz_ireti d_M_fits_62 rfl (by decide) ((((w.2 b1).2.2 b4).2 b5).2.2 b6)
      · skip
        refine rz_pure (pc' := 34) d_M_fits_33 rfl ?_
        refine rz_pure (pc' := 36) d_M_fits_34 rfl ?_
        refine rz_pure (pc' := 38) d_M_fits_36 rfl ?_
        refine rz_iadd d_M_fits_38 ?_
        refine rz_ialdv (F := S.1 a3) (i := (a4 + a5).toNatClampNeg) d_M_fits_39 (ha3) (((w.2 b1).2.2 b4).1 b5).1 rfl rfl ?_
        refine rz_sipush (v := 160) d_M_fits_40 (by decide) ?_
        refine rz_icmpne (tgt := 63) d_M_fits_43 rfl (fun b7 => ?_) (fun b7 => ?_)
        · skip
          refine rz_pure (pc' := 66) (l' := [(5, .int (a5 + 1)), (6, .int (S.1 a0 ((a1 + a5).toNatClampNeg))), (0, .ref a0), (1, .int a1), (2, .int a2), (3, .ref a3), (4, .int a4)]) d_M_fits_63 rfl ?_
          refine rz_pure (pc' := 3) d_M_fits_66 rfl ?_
          exact rz_pick (ks := [0, 1, 2, 3, 4, 5]) (l := [(0, .ref a0), (1, .int a1), (2, .int a2), (3, .ref a3), (4, .int a4), (5, .int (a5 + 1))]) rfl rfl (by decide) rfl ((((w.2 b1).2.2 b4).1 b5).2.2 b7)
        · skip
          refine rz_pure (pc' := 61) d_M_fits_46 rfl ?_
          refine rz_iconst (v := 0) d_M_fits_61 (by decide) ?_
          exact rz_ireti d_M_fits_62 rfl (by decide) ((((w.2 b1).2.2 b4).1 b5).2.1 b7)
    · skip
      refine rz_iconst (v := 1) d_M_fits_24 (by decide) ?_
      exact rz_ireti d_M_fits_25 rfl (by decide) ((w.2 b1).2.1 b4)
theorem d_M_same_0 : decode (rm_code mM_same) 0 = .ok (.iconst 1, 1) := by decide +kernel
theorem d_M_same_1 : decode (rm_code mM_same) 1 = .ok (.istore 5, 2) := by decide +kernel
theorem d_M_same_3 : decode (rm_code mM_same) 3 = .ok (.iconst 0, 1) := by decide +kernel
theorem d_M_same_4 : decode (rm_code mM_same) 4 = .ok (.istore 6, 2) := by decide +kernel
theorem d_M_same_6 : decode (rm_code mM_same) 6 = .ok (.iload 6, 2) := by decide +kernel
theorem d_M_same_8 : decode (rm_code mM_same) 8 = .ok (.bipush (10), 2) := by decide +kernel
theorem d_M_same_10 : decode (rm_code mM_same) 10 = .ok (.if_icmp .ge (49), 3) := by decide +kernel
theorem d_M_same_13 : decode (rm_code mM_same) 13 = .ok (.iload 5, 2) := by decide +kernel
theorem d_M_same_15 : decode (rm_code mM_same) 15 = .ok (.ifCond .eq (35), 3) := by decide +kernel
theorem d_M_same_18 : decode (rm_code mM_same) 18 = .ok (.aload_n 3, 1) := by decide +kernel
theorem d_M_same_19 : decode (rm_code mM_same) 19 = .ok (.iload 4, 2) := by decide +kernel
theorem d_M_same_21 : decode (rm_code mM_same) 21 = .ok (.iload 6, 2) := by decide +kernel
theorem d_M_same_23 : decode (rm_code mM_same) 23 = .ok (.iadd, 1) := by decide +kernel
theorem d_M_same_24 : decode (rm_code mM_same) 24 = .ok (.iaload, 1) := by decide +kernel
theorem d_M_same_25 : decode (rm_code mM_same) 25 = .ok (.iload 6, 2) := by decide +kernel
theorem d_M_same_27 : decode (rm_code mM_same) 27 = .ok (.iload_n 2, 1) := by decide +kernel
theorem d_M_same_28 : decode (rm_code mM_same) 28 = .ok (.if_icmp .ge (12), 3) := by decide +kernel
theorem d_M_same_31 : decode (rm_code mM_same) 31 = .ok (.aload_n 0, 1) := by decide +kernel
theorem d_M_same_32 : decode (rm_code mM_same) 32 = .ok (.iload_n 1, 1) := by decide +kernel
theorem d_M_same_33 : decode (rm_code mM_same) 33 = .ok (.iload 6, 2) := by decide +kernel
theorem d_M_same_35 : decode (rm_code mM_same) 35 = .ok (.iadd, 1) := by decide +kernel
theorem d_M_same_36 : decode (rm_code mM_same) 36 = .ok (.iaload, 1) := by decide +kernel
theorem d_M_same_37 : decode (rm_code mM_same) 37 = .ok (.goto (6), 3) := by decide +kernel
theorem d_M_same_40 : decode (rm_code mM_same) 40 = .ok (.sipush (160), 3) := by decide +kernel
theorem d_M_same_43 : decode (rm_code mM_same) 43 = .ok (.if_icmp .ne (7), 3) := by decide +kernel
theorem d_M_same_46 : decode (rm_code mM_same) 46 = .ok (.iconst 1, 1) := by decide +kernel
theorem d_M_same_47 : decode (rm_code mM_same) 47 = .ok (.goto (4), 3) := by decide +kernel
theorem d_M_same_50 : decode (rm_code mM_same) 50 = .ok (.iconst 0, 1) := by decide +kernel
theorem d_M_same_51 : decode (rm_code mM_same) 51 = .ok (.istore 5, 2) := by decide +kernel
theorem d_M_same_53 : decode (rm_code mM_same) 53 = .ok (.iinc 6 (1), 3) := by decide +kernel
theorem d_M_same_56 : decode (rm_code mM_same) 56 = .ok (.goto (-50), 3) := by decide +kernel
theorem d_M_same_59 : decode (rm_code mM_same) 59 = .ok (.iload 5, 2) := by decide +kernel
theorem d_M_same_61 : decode (rm_code mM_same) 61 = .ok (.ireturn, 1) := by decide +kernel
theorem p_M_same_0 {S : rz_S} {K : Int32 → rz_S → Prop} {a0 na0 : Nat} (ha0 : rz_T[a0]? = some (.inl (0, na0))) {a1 : Int32} {a2 : Int32} {a3 na3 : Nat} (ha3 : rz_T[a3]? = some (.inl (0, na3))) {a4 : Int32} (w : rz mM_same 6 [(0, .ref a0), (1, .int a1), (2, .int a2), (3, .ref a3), (4, .int a4), (5, .int 1), (6, .int 0)] [] S (rz_i K)) : rz mM_same 0 [(0, .ref a0), (1, .int a1), (2, .int a2), (3, .ref a3), (4, .int a4)] [] S (rz_i K) := by
  refine rz_iconst (v := 1) d_M_same_0 (by decide) ?_
  refine rz_pure (pc' := 3) (l' := [(5, .int 1), (0, .ref a0), (1, .int a1), (2, .int a2), (3, .ref a3), (4, .int a4)]) d_M_same_1 rfl ?_
  refine rz_iconst (v := 0) d_M_same_3 (by decide) ?_
  refine rz_pure (pc' := 6) (l' := [(6, .int 0), (5, .int 1), (0, .ref a0), (1, .int a1), (2, .int a2), (3, .ref a3), (4, .int a4)]) d_M_same_4 rfl ?_
  exact rz_pick (ks := [0, 1, 2, 3, 4, 5, 6]) (l := [(0, .ref a0), (1, .int a1), (2, .int a2), (3, .ref a3), (4, .int a4), (5, .int 1), (6, .int 0)]) rfl rfl (by decide) rfl w
theorem p_M_same_6 {S : rz_S} {K : Int32 → rz_S → Prop} {a0 na0 : Nat} (ha0 : rz_T[a0]? = some (.inl (0, na0))) {a1 : Int32} {a2 : Int32} {a3 na3 : Nat} (ha3 : rz_T[a3]? = some (.inl (0, na3))) {a4 : Int32} {a5 : Int32} {a6 : Int32} (w : ((10 ≤ a6 → (a5 = 0 ∨ a5 = 1) ∧ K a5 S) ∧ (¬ 10 ≤ a6 → ((a5 = 0 → rz mM_same 6 [(0, .ref a0), (1, .int a1), (2, .int a2), (3, .ref a3), (4, .int a4), (5, .int 0), (6, .int (a6 + 1))] [] S (rz_i K)) ∧ (¬ a5 = 0 → rx_in (a4 + a6) na3 = true ∧ ((a2 ≤ a6 → rz mM_same 43 [(0, .ref a0), (1, .int a1), (2, .int a2), (3, .ref a3), (4, .int a4), (6, .int a6)] [.int 160, .int (S.1 a3 ((a4 + a6).toNatClampNeg))] S (rz_i K)) ∧ (¬ a2 ≤ a6 → rx_in (a1 + a6) na0 = true ∧ rz mM_same 43 [(0, .ref a0), (1, .int a1), (2, .int a2), (3, .ref a3), (4, .int a4), (6, .int a6)] [.int (S.1 a0 ((a1 + a6).toNatClampNeg)), .int (S.1 a3 ((a4 + a6).toNatClampNeg))] S (rz_i K)))))))) : rz mM_same 6 [(0, .ref a0), (1, .int a1), (2, .int a2), (3, .ref a3), (4, .int a4), (5, .int a5), (6, .int a6)] [] S (rz_i K) := by
  refine rz_pure (pc' := 8) d_M_same_6 rfl ?_
  refine rz_bipush (v := 10) d_M_same_8 (by decide) ?_
  refine rz_icmpge (tgt := 59) d_M_same_10 rfl (fun b1 => ?_) (fun b1 => ?_)
  · skip
    refine rz_pure (pc' := 61) d_M_same_59 rfl ?_
    exact rz_ireti d_M_same_61 rfl (rz_bnok (w.1 b1).1) (w.1 b1).2
  · skip
    refine rz_pure (pc' := 15) d_M_same_13 rfl ?_
    refine rz_ifeq (tgt := 50) d_M_same_15 rfl (fun b2 => ?_) (fun b2 => ?_)
    · skip
      refine rz_iconst (v := 0) d_M_same_50 (by decide) ?_
      refine rz_pure (pc' := 53) (l' := [(5, .int 0), (0, .ref a0), (1, .int a1), (2, .int a2), (3, .ref a3), (4, .int a4), (6, .int a6)]) d_M_same_51 rfl ?_
      refine rz_pure (pc' := 56) (l' := [(6, .int (a6 + 1)), (5, .int 0), (0, .ref a0), (1, .int a1), (2, .int a2), (3, .ref a3), (4, .int a4)]) d_M_same_53 rfl ?_
      refine rz_pure (pc' := 6) d_M_same_56 rfl ?_
      exact rz_pick (ks := [0, 1, 2, 3, 4, 5, 6]) (l := [(0, .ref a0), (1, .int a1), (2, .int a2), (3, .ref a3), (4, .int a4), (5, .int 0), (6, .int (a6 + 1))]) rfl rfl (by decide) rfl ((w.2 b1).1 b2)
    · skip
      refine rz_pure (pc' := 19) d_M_same_18 rfl ?_
      refine rz_pure (pc' := 21) d_M_same_19 rfl ?_
      refine rz_pure (pc' := 23) d_M_same_21 rfl ?_
      refine rz_iadd d_M_same_23 ?_
      refine rz_ialdv (F := S.1 a3) (i := (a4 + a6).toNatClampNeg) d_M_same_24 (ha3) ((w.2 b1).2 b2).1 rfl rfl ?_
      refine rz_pure (pc' := 27) d_M_same_25 rfl ?_
      refine rz_pure (pc' := 28) d_M_same_27 rfl ?_
      refine rz_icmpge (tgt := 40) d_M_same_28 rfl (fun b3 => ?_) (fun b3 => ?_)
      · skip
        refine rz_sipush (v := 160) d_M_same_40 (by decide) ?_
        exact rz_pick (ks := [0, 1, 2, 3, 4, 6]) (l := [(0, .ref a0), (1, .int a1), (2, .int a2), (3, .ref a3), (4, .int a4), (6, .int a6)]) rfl rfl (by decide) rfl (((w.2 b1).2 b2).2.1 b3)
      · skip
        refine rz_pure (pc' := 32) d_M_same_31 rfl ?_
        refine rz_pure (pc' := 33) d_M_same_32 rfl ?_
        refine rz_pure (pc' := 35) d_M_same_33 rfl ?_
        refine rz_iadd d_M_same_35 ?_
        refine rz_ialdv (F := S.1 a0) (i := (a1 + a6).toNatClampNeg) d_M_same_36 (ha0) (((w.2 b1).2 b2).2.2 b3).1 rfl rfl ?_
        refine rz_pure (pc' := 43) d_M_same_37 rfl ?_
        exact rz_pick (ks := [0, 1, 2, 3, 4, 6]) (l := [(0, .ref a0), (1, .int a1), (2, .int a2), (3, .ref a3), (4, .int a4), (6, .int a6)]) rfl rfl (by decide) rfl (((w.2 b1).2 b2).2.2 b3).2
theorem p_M_same_43 {S : rz_S} {K : Int32 → rz_S → Prop} {a0 na0 : Nat} (ha0 : rz_T[a0]? = some (.inl (0, na0))) {a1 : Int32} {a2 : Int32} {a3 na3 : Nat} (ha3 : rz_T[a3]? = some (.inl (0, na3))) {a4 : Int32} {a6 : Int32} {s0 : Int32} {s1 : Int32} (w : ((s1 = s0 → rz mM_same 6 [(0, .ref a0), (1, .int a1), (2, .int a2), (3, .ref a3), (4, .int a4), (5, .int 1), (6, .int (a6 + 1))] [] S (rz_i K)) ∧ (¬ s1 = s0 → rz mM_same 6 [(0, .ref a0), (1, .int a1), (2, .int a2), (3, .ref a3), (4, .int a4), (5, .int 0), (6, .int (a6 + 1))] [] S (rz_i K)))) : rz mM_same 43 [(0, .ref a0), (1, .int a1), (2, .int a2), (3, .ref a3), (4, .int a4), (6, .int a6)] [.int s0, .int s1] S (rz_i K) := by
  refine rz_icmpne (tgt := 50) d_M_same_43 rfl (fun b1 => ?_) (fun b1 => ?_)
  · skip
    refine rz_iconst (v := 0) d_M_same_50 (by decide) ?_
    refine rz_pure (pc' := 53) (l' := [(5, .int 0), (0, .ref a0), (1, .int a1), (2, .int a2), (3, .ref a3), (4, .int a4), (6, .int a6)]) d_M_same_51 rfl ?_
    refine rz_pure (pc' := 56) (l' := [(6, .int (a6 + 1)), (5, .int 0), (0, .ref a0), (1, .int a1), (2, .int a2), (3, .ref a3), (4, .int a4)]) d_M_same_53 rfl ?_
    refine rz_pure (pc' := 6) d_M_same_56 rfl ?_
    exact rz_pick (ks := [0, 1, 2, 3, 4, 5, 6]) (l := [(0, .ref a0), (1, .int a1), (2, .int a2), (3, .ref a3), (4, .int a4), (5, .int 0), (6, .int (a6 + 1))]) rfl rfl (by decide) rfl (w.2 b1)
  · skip
    refine rz_iconst (v := 1) d_M_same_46 (by decide) ?_
    refine rz_pure (pc' := 51) d_M_same_47 rfl ?_
    refine rz_pure (pc' := 53) (l' := [(5, .int 1), (0, .ref a0), (1, .int a1), (2, .int a2), (3, .ref a3), (4, .int a4), (6, .int a6)]) d_M_same_51 rfl ?_
    refine rz_pure (pc' := 56) (l' := [(6, .int (a6 + 1)), (5, .int 1), (0, .ref a0), (1, .int a1), (2, .int a2), (3, .ref a3), (4, .int a4)]) d_M_same_53 rfl ?_
    refine rz_pure (pc' := 6) d_M_same_56 rfl ?_
    exact rz_pick (ks := [0, 1, 2, 3, 4, 5, 6]) (l := [(0, .ref a0), (1, .int a1), (2, .int a2), (3, .ref a3), (4, .int a4), (5, .int 1), (6, .int (a6 + 1))]) rfl rfl (by decide) rfl (w.1 b1)
theorem d_M_finds_0 : decode (rm_code mM_finds) 0 = .ok (.bipush (7), 2) := by decide +kernel
theorem d_M_finds_2 : decode (rm_code mM_finds) 2 = .ok (.istore 5, 2) := by decide +kernel
theorem d_M_finds_4 : decode (rm_code mM_finds) 4 = .ok (.iconst 1, 1) := by decide +kernel
theorem d_M_finds_5 : decode (rm_code mM_finds) 5 = .ok (.istore 6, 2) := by decide +kernel
theorem d_M_finds_7 : decode (rm_code mM_finds) 7 = .ok (.aload_n 0, 1) := by decide +kernel
theorem d_M_finds_8 : decode (rm_code mM_finds) 8 = .ok (.iconst 1, 1) := by decide +kernel
theorem d_M_finds_9 : decode (rm_code mM_finds) 9 = .ok (.putfield 192, 3) := by decide +kernel
theorem d_M_finds_12 : decode (rm_code mM_finds) 12 = .ok (.aload_n 0, 1) := by decide +kernel
theorem d_M_finds_13 : decode (rm_code mM_finds) 13 = .ok (.getfield 192, 3) := by decide +kernel
theorem d_M_finds_16 : decode (rm_code mM_finds) 16 = .ok (.bipush (6), 2) := by decide +kernel
theorem d_M_finds_18 : decode (rm_code mM_finds) 18 = .ok (.if_icmp .gt (232), 3) := by decide +kernel
theorem d_M_finds_21 : decode (rm_code mM_finds) 21 = .ok (.iload 5, 2) := by decide +kernel
theorem d_M_finds_23 : decode (rm_code mM_finds) 23 = .ok (.iload 6, 2) := by decide +kernel
theorem d_M_finds_25 : decode (rm_code mM_finds) 25 = .ok (.invokestatic 161, 3) := by decide +kernel
theorem d_M_finds_28 : decode (rm_code mM_finds) 28 = .ok (.ifCond .ne (14), 3) := by decide +kernel
theorem d_M_finds_31 : decode (rm_code mM_finds) 31 = .ok (.aload_n 0, 1) := by decide +kernel
theorem d_M_finds_32 : decode (rm_code mM_finds) 32 = .ok (.bipush (71), 2) := by decide +kernel
theorem d_M_finds_34 : decode (rm_code mM_finds) 34 = .ok (.iload 5, 2) := by decide +kernel
theorem d_M_finds_36 : decode (rm_code mM_finds) 36 = .ok (.iload 6, 2) := by decide +kernel
theorem d_M_finds_38 : decode (rm_code mM_finds) 38 = .ok (.invokevirtual 113, 3) := by decide +kernel
theorem d_M_finds_41 : decode (rm_code mM_finds) 41 = .ok (.ireturn, 1) := by decide +kernel
theorem d_M_finds_42 : decode (rm_code mM_finds) 42 = .ok (.aload_n 0, 1) := by decide +kernel
theorem d_M_finds_43 : decode (rm_code mM_finds) 43 = .ok (.iload 5, 2) := by decide +kernel
theorem d_M_finds_45 : decode (rm_code mM_finds) 45 = .ok (.iload 6, 2) := by decide +kernel
theorem d_M_finds_47 : decode (rm_code mM_finds) 47 = .ok (.aload_n 0, 1) := by decide +kernel
theorem d_M_finds_48 : decode (rm_code mM_finds) 48 = .ok (.getfield 195, 3) := by decide +kernel
theorem d_M_finds_51 : decode (rm_code mM_finds) 51 = .ok (.iconst 0, 1) := by decide +kernel
theorem d_M_finds_52 : decode (rm_code mM_finds) 52 = .ok (.invokevirtual 148, 3) := by decide +kernel
theorem d_M_finds_55 : decode (rm_code mM_finds) 55 = .ok (.istore 7, 2) := by decide +kernel
theorem d_M_finds_57 : decode (rm_code mM_finds) 57 = .ok (.iload 7, 2) := by decide +kernel
theorem d_M_finds_59 : decode (rm_code mM_finds) 59 = .ok (.ifCond .eq (6), 3) := by decide +kernel
theorem d_M_finds_62 : decode (rm_code mM_finds) 62 = .ok (.iload 7, 2) := by decide +kernel
theorem d_M_finds_64 : decode (rm_code mM_finds) 64 = .ok (.ireturn, 1) := by decide +kernel
theorem d_M_finds_65 : decode (rm_code mM_finds) 65 = .ok (.aload_n 0, 1) := by decide +kernel
theorem d_M_finds_66 : decode (rm_code mM_finds) 66 = .ok (.iload 5, 2) := by decide +kernel
theorem d_M_finds_68 : decode (rm_code mM_finds) 68 = .ok (.putfield 198, 3) := by decide +kernel
theorem d_M_finds_71 : decode (rm_code mM_finds) 71 = .ok (.aload_n 0, 1) := by decide +kernel
theorem d_M_finds_72 : decode (rm_code mM_finds) 72 = .ok (.iload 6, 2) := by decide +kernel
theorem d_M_finds_74 : decode (rm_code mM_finds) 74 = .ok (.putfield 201, 3) := by decide +kernel
theorem d_M_finds_77 : decode (rm_code mM_finds) 77 = .ok (.iconst 0, 1) := by decide +kernel
theorem d_M_finds_78 : decode (rm_code mM_finds) 78 = .ok (.istore 8, 2) := by decide +kernel
theorem d_M_finds_80 : decode (rm_code mM_finds) 80 = .ok (.iload 8, 2) := by decide +kernel
theorem d_M_finds_82 : decode (rm_code mM_finds) 82 = .ok (.iconst 4, 1) := by decide +kernel
theorem d_M_finds_83 : decode (rm_code mM_finds) 83 = .ok (.if_icmp .ge (127), 3) := by decide +kernel
theorem d_M_finds_86 : decode (rm_code mM_finds) 86 = .ok (.aload_n 0, 1) := by decide +kernel
theorem d_M_finds_87 : decode (rm_code mM_finds) 87 = .ok (.getfield 195, 3) := by decide +kernel
theorem d_M_finds_90 : decode (rm_code mM_finds) 90 = .ok (.bipush (16), 2) := by decide +kernel
theorem d_M_finds_92 : decode (rm_code mM_finds) 92 = .ok (.iload 8, 2) := by decide +kernel
theorem d_M_finds_94 : decode (rm_code mM_finds) 94 = .ok (.imul, 1) := by decide +kernel
theorem d_M_finds_95 : decode (rm_code mM_finds) 95 = .ok (.iconst 2, 1) := by decide +kernel
theorem d_M_finds_96 : decode (rm_code mM_finds) 96 = .ok (.iadd, 1) := by decide +kernel
theorem d_M_finds_97 : decode (rm_code mM_finds) 97 = .ok (.iaload, 1) := by decide +kernel
theorem d_M_finds_98 : decode (rm_code mM_finds) 98 = .ok (.istore 9, 2) := by decide +kernel
theorem d_M_finds_100 : decode (rm_code mM_finds) 100 = .ok (.iload_n 1, 1) := by decide +kernel
theorem d_M_finds_101 : decode (rm_code mM_finds) 101 = .ok (.iconst 2, 1) := by decide +kernel
theorem d_M_finds_102 : decode (rm_code mM_finds) 102 = .ok (.if_icmp .ne (16), 3) := by decide +kernel
theorem d_M_finds_105 : decode (rm_code mM_finds) 105 = .ok (.iload 9, 2) := by decide +kernel
theorem d_M_finds_107 : decode (rm_code mM_finds) 107 = .ok (.ifCond .ne (7), 3) := by decide +kernel
theorem d_M_finds_110 : decode (rm_code mM_finds) 110 = .ok (.iconst 1, 1) := by decide +kernel
theorem d_M_finds_111 : decode (rm_code mM_finds) 111 = .ok (.goto (66), 3) := by decide +kernel
theorem d_M_finds_114 : decode (rm_code mM_finds) 114 = .ok (.iconst 0, 1) := by decide +kernel
theorem d_M_finds_115 : decode (rm_code mM_finds) 115 = .ok (.goto (62), 3) := by decide +kernel
theorem d_M_finds_118 : decode (rm_code mM_finds) 118 = .ok (.iload 9, 2) := by decide +kernel
theorem d_M_finds_120 : decode (rm_code mM_finds) 120 = .ok (.ifCond .eq (56), 3) := by decide +kernel
theorem d_M_finds_123 : decode (rm_code mM_finds) 123 = .ok (.iload_n 1, 1) := by decide +kernel
theorem d_M_finds_124 : decode (rm_code mM_finds) 124 = .ok (.ifCond .ne (27), 3) := by decide +kernel
theorem d_M_finds_127 : decode (rm_code mM_finds) 127 = .ok (.aload_n 2, 1) := by decide +kernel
theorem d_M_finds_128 : decode (rm_code mM_finds) 128 = .ok (.iload_n 3, 1) := by decide +kernel
theorem d_M_finds_129 : decode (rm_code mM_finds) 129 = .ok (.iload 4, 2) := by decide +kernel
theorem d_M_finds_131 : decode (rm_code mM_finds) 131 = .ok (.aload_n 0, 1) := by decide +kernel
theorem d_M_finds_132 : decode (rm_code mM_finds) 132 = .ok (.getfield 195, 3) := by decide +kernel
theorem d_M_finds_135 : decode (rm_code mM_finds) 135 = .ok (.bipush (16), 2) := by decide +kernel
theorem d_M_finds_137 : decode (rm_code mM_finds) 137 = .ok (.iload 8, 2) := by decide +kernel
theorem d_M_finds_139 : decode (rm_code mM_finds) 139 = .ok (.imul, 1) := by decide +kernel
theorem d_M_finds_140 : decode (rm_code mM_finds) 140 = .ok (.iconst 5, 1) := by decide +kernel
theorem d_M_finds_141 : decode (rm_code mM_finds) 141 = .ok (.iadd, 1) := by decide +kernel
theorem d_M_finds_142 : decode (rm_code mM_finds) 142 = .ok (.invokestatic 204, 3) := by decide +kernel
theorem d_M_finds_145 : decode (rm_code mM_finds) 145 = .ok (.ifCond .eq (31), 3) := by decide +kernel
theorem d_M_finds_148 : decode (rm_code mM_finds) 148 = .ok (.goto (24), 3) := by decide +kernel
theorem d_M_finds_151 : decode (rm_code mM_finds) 151 = .ok (.aload_n 2, 1) := by decide +kernel
theorem d_M_finds_152 : decode (rm_code mM_finds) 152 = .ok (.iload_n 3, 1) := by decide +kernel
theorem d_M_finds_153 : decode (rm_code mM_finds) 153 = .ok (.iload 4, 2) := by decide +kernel
theorem d_M_finds_155 : decode (rm_code mM_finds) 155 = .ok (.aload_n 0, 1) := by decide +kernel
theorem d_M_finds_156 : decode (rm_code mM_finds) 156 = .ok (.getfield 195, 3) := by decide +kernel
theorem d_M_finds_159 : decode (rm_code mM_finds) 159 = .ok (.bipush (16), 2) := by decide +kernel
theorem d_M_finds_161 : decode (rm_code mM_finds) 161 = .ok (.iload 8, 2) := by decide +kernel
theorem d_M_finds_163 : decode (rm_code mM_finds) 163 = .ok (.imul, 1) := by decide +kernel
theorem d_M_finds_164 : decode (rm_code mM_finds) 164 = .ok (.iconst 5, 1) := by decide +kernel
theorem d_M_finds_165 : decode (rm_code mM_finds) 165 = .ok (.iadd, 1) := by decide +kernel
theorem d_M_finds_166 : decode (rm_code mM_finds) 166 = .ok (.invokestatic 208, 3) := by decide +kernel
theorem d_M_finds_169 : decode (rm_code mM_finds) 169 = .ok (.ifCond .eq (7), 3) := by decide +kernel
theorem d_M_finds_172 : decode (rm_code mM_finds) 172 = .ok (.iconst 1, 1) := by decide +kernel
theorem d_M_finds_173 : decode (rm_code mM_finds) 173 = .ok (.goto (4), 3) := by decide +kernel
theorem d_M_finds_176 : decode (rm_code mM_finds) 176 = .ok (.iconst 0, 1) := by decide +kernel
theorem d_M_finds_177 : decode (rm_code mM_finds) 177 = .ok (.istore 10, 2) := by decide +kernel
theorem d_M_finds_179 : decode (rm_code mM_finds) 179 = .ok (.iload 10, 2) := by decide +kernel
theorem d_M_finds_181 : decode (rm_code mM_finds) 181 = .ok (.ifCond .eq (23), 3) := by decide +kernel
theorem d_M_finds_184 : decode (rm_code mM_finds) 184 = .ok (.aload_n 0, 1) := by decide +kernel
theorem d_M_finds_185 : decode (rm_code mM_finds) 185 = .ok (.iload 5, 2) := by decide +kernel
theorem d_M_finds_187 : decode (rm_code mM_finds) 187 = .ok (.putfield 211, 3) := by decide +kernel
theorem d_M_finds_190 : decode (rm_code mM_finds) 190 = .ok (.aload_n 0, 1) := by decide +kernel
theorem d_M_finds_191 : decode (rm_code mM_finds) 191 = .ok (.iload 6, 2) := by decide +kernel
theorem d_M_finds_193 : decode (rm_code mM_finds) 193 = .ok (.putfield 214, 3) := by decide +kernel
theorem d_M_finds_196 : decode (rm_code mM_finds) 196 = .ok (.aload_n 0, 1) := by decide +kernel
theorem d_M_finds_197 : decode (rm_code mM_finds) 197 = .ok (.iload 8, 2) := by decide +kernel
theorem d_M_finds_199 : decode (rm_code mM_finds) 199 = .ok (.putfield 217, 3) := by decide +kernel
theorem d_M_finds_202 : decode (rm_code mM_finds) 202 = .ok (.iconst 0, 1) := by decide +kernel
theorem d_M_finds_203 : decode (rm_code mM_finds) 203 = .ok (.ireturn, 1) := by decide +kernel
theorem d_M_finds_204 : decode (rm_code mM_finds) 204 = .ok (.iinc 8 (1), 3) := by decide +kernel
theorem d_M_finds_207 : decode (rm_code mM_finds) 207 = .ok (.goto (-127), 3) := by decide +kernel
theorem d_M_finds_210 : decode (rm_code mM_finds) 210 = .ok (.aload_n 0, 1) := by decide +kernel
theorem d_M_finds_211 : decode (rm_code mM_finds) 211 = .ok (.getfield 195, 3) := by decide +kernel
theorem d_M_finds_214 : decode (rm_code mM_finds) 214 = .ok (.iconst 0, 1) := by decide +kernel
theorem d_M_finds_215 : decode (rm_code mM_finds) 215 = .ok (.iaload, 1) := by decide +kernel
theorem d_M_finds_216 : decode (rm_code mM_finds) 216 = .ok (.ifCond .ne (5), 3) := by decide +kernel
theorem d_M_finds_219 : decode (rm_code mM_finds) 219 = .ok (.iconst (-1), 1) := by decide +kernel
theorem d_M_finds_220 : decode (rm_code mM_finds) 220 = .ok (.ireturn, 1) := by decide +kernel
theorem d_M_finds_221 : decode (rm_code mM_finds) 221 = .ok (.aload_n 0, 1) := by decide +kernel
theorem d_M_finds_222 : decode (rm_code mM_finds) 222 = .ok (.getfield 195, 3) := by decide +kernel
theorem d_M_finds_225 : decode (rm_code mM_finds) 225 = .ok (.iconst 0, 1) := by decide +kernel
theorem d_M_finds_226 : decode (rm_code mM_finds) 226 = .ok (.iaload, 1) := by decide +kernel
theorem d_M_finds_227 : decode (rm_code mM_finds) 227 = .ok (.istore 5, 2) := by decide +kernel
theorem d_M_finds_229 : decode (rm_code mM_finds) 229 = .ok (.aload_n 0, 1) := by decide +kernel
theorem d_M_finds_230 : decode (rm_code mM_finds) 230 = .ok (.getfield 195, 3) := by decide +kernel
theorem d_M_finds_233 : decode (rm_code mM_finds) 233 = .ok (.iconst 1, 1) := by decide +kernel
theorem d_M_finds_234 : decode (rm_code mM_finds) 234 = .ok (.iaload, 1) := by decide +kernel
theorem d_M_finds_235 : decode (rm_code mM_finds) 235 = .ok (.istore 6, 2) := by decide +kernel
theorem d_M_finds_237 : decode (rm_code mM_finds) 237 = .ok (.aload_n 0, 1) := by decide +kernel
theorem d_M_finds_238 : decode (rm_code mM_finds) 238 = .ok (.dup, 1) := by decide +kernel
theorem d_M_finds_239 : decode (rm_code mM_finds) 239 = .ok (.getfield 192, 3) := by decide +kernel
theorem d_M_finds_242 : decode (rm_code mM_finds) 242 = .ok (.iconst 1, 1) := by decide +kernel
theorem d_M_finds_243 : decode (rm_code mM_finds) 243 = .ok (.iadd, 1) := by decide +kernel
theorem d_M_finds_244 : decode (rm_code mM_finds) 244 = .ok (.putfield 192, 3) := by decide +kernel
theorem d_M_finds_247 : decode (rm_code mM_finds) 247 = .ok (.goto (-235), 3) := by decide +kernel
theorem d_M_finds_250 : decode (rm_code mM_finds) 250 = .ok (.aload_n 0, 1) := by decide +kernel
theorem d_M_finds_251 : decode (rm_code mM_finds) 251 = .ok (.bipush (6), 2) := by decide +kernel
theorem d_M_finds_253 : decode (rm_code mM_finds) 253 = .ok (.putfield 192, 3) := by decide +kernel
theorem d_M_finds_256 : decode (rm_code mM_finds) 256 = .ok (.iconst (-1), 1) := by decide +kernel
theorem d_M_finds_257 : decode (rm_code mM_finds) 257 = .ok (.ireturn, 1) := by decide +kernel
theorem p_M_finds_0 {S : rz_S} {K : Int32 → rz_S → Prop} {a1 : Int32} {a2 na2 : Nat} (ha2 : rz_T[a2]? = some (.inl (0, na2))) {a3 : Int32} {a4 : Int32} (w : rz mM_finds 12 [(0, .ref 116), (1, .int a1), (2, .ref a2), (3, .int a3), (4, .int a4), (5, .int 7), (6, .int 1)] [] (rz_uI S 116 32 1) (rz_i K)) : rz mM_finds 0 [(0, .ref 116), (1, .int a1), (2, .ref a2), (3, .int a3), (4, .int a4)] [] S (rz_i K) := by
  refine rz_bipush (v := 7) d_M_finds_0 (by decide) ?_
  refine rz_pure (pc' := 4) (l' := [(5, .int 7), (0, .ref 116), (1, .int a1), (2, .ref a2), (3, .int a3), (4, .int a4)]) d_M_finds_2 rfl ?_
  refine rz_iconst (v := 1) d_M_finds_4 (by decide) ?_
  refine rz_pure (pc' := 7) (l' := [(6, .int 1), (5, .int 7), (0, .ref 116), (1, .int a1), (2, .ref a2), (3, .int a3), (4, .int a4)]) d_M_finds_5 rfl ?_
  refine rz_pure (pc' := 8) d_M_finds_7 rfl ?_
  refine rz_iconst (v := 1) d_M_finds_8 (by decide) ?_
  refine rz_puti d_M_finds_9 f_12_192 rfl rfl rfl ?_
  exact rz_pick (ks := [0, 1, 2, 3, 4, 5, 6]) (l := [(0, .ref 116), (1, .int a1), (2, .ref a2), (3, .int a3), (4, .int a4), (5, .int 7), (6, .int 1)]) rfl rfl (by decide) rfl w
theorem p_M_finds_12 {S : rz_S} {K : Int32 → rz_S → Prop} {a1 : Int32} {a2 na2 : Nat} (ha2 : rz_T[a2]? = some (.inl (0, na2))) {a3 : Int32} {a4 : Int32} {a5 : Int32} {a6 : Int32} (w : ((6 < S.2 116 32 → K (-1) (rz_uI S 116 32 6)) ∧ (¬ 6 < S.2 116 32 → rz_ev mM_isLegal [.int a5, .int a6] S (rz_i (fun xq2 Sq2 => ((xq2 = 0 → rz_ev mM_fault [.ref 116, .int 71, .int a5, .int a6] Sq2 (rz_i (fun xq6 Sq6 => K xq6 Sq6))) ∧ (¬ xq2 = 0 → rz_ev mM_readBlock [.ref 116, .int a5, .int a6, .ref 124, .int 0] Sq2 (rz_i (fun xq4 Sq4 => ((xq4 = 0 → rz mM_finds 80 [(0, .ref 116), (1, .int a1), (2, .ref a2), (3, .int a3), (4, .int a4), (5, .int a5), (6, .int a6), (8, .int 0)] [] (rz_uI (rz_uI Sq4 116 30 a5) 116 31 a6) (rz_i K)) ∧ (¬ xq4 = 0 → K xq4 Sq4))))))))))) : rz mM_finds 12 [(0, .ref 116), (1, .int a1), (2, .ref a2), (3, .int a3), (4, .int a4), (5, .int a5), (6, .int a6)] [] S (rz_i K) := by
  refine rz_pure (pc' := 13) d_M_finds_12 rfl ?_
  refine rz_getiv (v := S.2 116 32) d_M_finds_13 f_12_192 rfl rfl rfl ?_
  refine rz_bipush (v := 6) d_M_finds_16 (by decide) ?_
  refine rz_icmpgt (tgt := 250) d_M_finds_18 rfl (fun b1 => ?_) (fun b1 => ?_)
  · skip
    refine rz_pure (pc' := 251) d_M_finds_250 rfl ?_
    refine rz_bipush (v := 6) d_M_finds_251 (by decide) ?_
    refine rz_puti d_M_finds_253 f_12_192 rfl rfl rfl ?_
    refine rz_iconst (v := -1) d_M_finds_256 (by decide) ?_
    exact rz_ireti d_M_finds_257 rfl rfl (w.1 b1)
  · skip
    refine rz_pure (pc' := 23) d_M_finds_21 rfl ?_
    refine rz_pure (pc' := 25) d_M_finds_23 rfl ?_
    refine rz_callSi (t := [.int a6, .int a5]) d_M_finds_25 rfl w_12_161 rfl rfl (w.2 b1) (fun xq2 Sq2 q2 => ?_)
    refine rz_ifne (tgt := 42) d_M_finds_28 rfl (fun b3 => ?_) (fun b3 => ?_)
    · skip
      refine rz_pure (pc' := 43) d_M_finds_42 rfl ?_
      refine rz_pure (pc' := 45) d_M_finds_43 rfl ?_
      refine rz_pure (pc' := 47) d_M_finds_45 rfl ?_
      refine rz_pure (pc' := 48) d_M_finds_47 rfl ?_
      refine rz_getr d_M_finds_48 f_12_195 rfl rfl ?_
      refine rz_iconst (v := 0) d_M_finds_51 (by decide) ?_
      refine rz_callVi (t := [.int 0, .ref 124, .int a6, .int a5]) d_M_finds_52 w_12_148 rfl rfl rfl (q2.2 b3) (fun xq4 Sq4 q4 => ?_)
      refine rz_pure (pc' := 57) (l' := [(7, .int xq4), (0, .ref 116), (1, .int a1), (2, .ref a2), (3, .int a3), (4, .int a4), (5, .int a5), (6, .int a6)]) d_M_finds_55 rfl ?_
      refine rz_pure (pc' := 59) d_M_finds_57 rfl ?_
      refine rz_ifeq (tgt := 65) d_M_finds_59 rfl (fun b5 => ?_) (fun b5 => ?_)
      · skip
        refine rz_pure (pc' := 66) d_M_finds_65 rfl ?_
        refine rz_pure (pc' := 68) d_M_finds_66 rfl ?_
        refine rz_puti d_M_finds_68 f_12_198 rfl rfl rfl ?_
        refine rz_pure (pc' := 72) d_M_finds_71 rfl ?_
        refine rz_pure (pc' := 74) d_M_finds_72 rfl ?_
        refine rz_puti d_M_finds_74 f_12_201 rfl rfl rfl ?_
        refine rz_iconst (v := 0) d_M_finds_77 (by decide) ?_
        refine rz_pure (pc' := 80) (l' := [(8, .int 0), (7, .int xq4), (0, .ref 116), (1, .int a1), (2, .ref a2), (3, .int a3), (4, .int a4), (5, .int a5), (6, .int a6)]) d_M_finds_78 rfl ?_
        exact rz_pick (ks := [0, 1, 2, 3, 4, 5, 6, 8]) (l := [(0, .ref 116), (1, .int a1), (2, .ref a2), (3, .int a3), (4, .int a4), (5, .int a5), (6, .int a6), (8, .int 0)]) rfl rfl (by decide) rfl (q4.1 b5)
      · skip
        refine rz_pure (pc' := 64) d_M_finds_62 rfl ?_
        exact rz_ireti d_M_finds_64 rfl rfl (q4.2 b5)
    · skip
      refine rz_pure (pc' := 32) d_M_finds_31 rfl ?_
      refine rz_bipush (v := 71) d_M_finds_32 (by decide) ?_
      refine rz_pure (pc' := 36) d_M_finds_34 rfl ?_
      refine rz_pure (pc' := 38) d_M_finds_36 rfl ?_
      refine rz_callVi (t := [.int a6, .int a5, .int 71]) d_M_finds_38 w_12_113 rfl rfl rfl (q2.1 b3) (fun xq6 Sq6 q6 => ?_)
      exact rz_ireti d_M_finds_41 rfl rfl q6
theorem p_M_finds_80 {S : rz_S} {K : Int32 → rz_S → Prop} {a1 : Int32} {a2 na2 : Nat} (ha2 : rz_T[a2]? = some (.inl (0, na2))) {a3 : Int32} {a4 : Int32} {a5 : Int32} {a6 : Int32} {a8 : Int32} (w : ((4 ≤ a8 → ((S.1 124 0 = 0 → K (-1) S) ∧ (¬ S.1 124 0 = 0 → rz mM_finds 12 [(0, .ref 116), (1, .int a1), (2, .ref a2), (3, .int a3), (4, .int a4), (5, .int (S.1 124 0)), (6, .int (S.1 124 1))] [] (rz_uI S 116 32 ((S.2 116 32) + 1)) (rz_i K)))) ∧ (¬ 4 ≤ a8 → rx_in ((16 * a8) + 2) 64 = true ∧ ((a1 = 2 → ((S.1 124 (((16 * a8) + 2).toNatClampNeg) = 0 → rz mM_finds 177 [(0, .ref 116), (1, .int a1), (2, .ref a2), (3, .int a3), (4, .int a4), (5, .int a5), (6, .int a6), (8, .int a8)] [.int 1] S (rz_i K)) ∧ (¬ S.1 124 (((16 * a8) + 2).toNatClampNeg) = 0 → rz mM_finds 177 [(0, .ref 116), (1, .int a1), (2, .ref a2), (3, .int a3), (4, .int a4), (5, .int a5), (6, .int a6), (8, .int a8)] [.int 0] S (rz_i K)))) ∧ (¬ a1 = 2 → ((S.1 124 (((16 * a8) + 2).toNatClampNeg) = 0 → rz mM_finds 176 [(0, .ref 116), (1, .int a1), (2, .ref a2), (3, .int a3), (4, .int a4), (5, .int a5), (6, .int a6), (8, .int a8)] [] S (rz_i K)) ∧ (¬ S.1 124 (((16 * a8) + 2).toNatClampNeg) = 0 → ((a1 = 0 → rz_ev mM_fits [.ref a2, .int a3, .int a4, .ref 124, .int ((16 * a8) + 5)] S (rz_i (fun xq8 Sq8 => ((xq8 = 0 → rz mM_finds 176 [(0, .ref 116), (1, .int a1), (2, .ref a2), (3, .int a3), (4, .int a4), (5, .int a5), (6, .int a6), (8, .int a8)] [] Sq8 (rz_i K)) ∧ (¬ xq8 = 0 → rz mM_finds 172 [(0, .ref 116), (1, .int a1), (2, .ref a2), (3, .int a3), (4, .int a4), (5, .int a5), (6, .int a6), (8, .int a8)] [] Sq8 (rz_i K)))))) ∧ (¬ a1 = 0 → rz_ev mM_same [.ref a2, .int a3, .int a4, .ref 124, .int ((16 * a8) + 5)] S (rz_i (fun xq6 Sq6 => ((xq6 = 0 → rz mM_finds 176 [(0, .ref 116), (1, .int a1), (2, .ref a2), (3, .int a3), (4, .int a4), (5, .int a5), (6, .int a6), (8, .int a8)] [] Sq6 (rz_i K)) ∧ (¬ xq6 = 0 → rz mM_finds 172 [(0, .ref 116), (1, .int a1), (2, .ref a2), (3, .int a3), (4, .int a4), (5, .int a5), (6, .int a6), (8, .int a8)] [] Sq6 (rz_i K)))))))))))))) : rz mM_finds 80 [(0, .ref 116), (1, .int a1), (2, .ref a2), (3, .int a3), (4, .int a4), (5, .int a5), (6, .int a6), (8, .int a8)] [] S (rz_i K) := by
  refine rz_pure (pc' := 82) d_M_finds_80 rfl ?_
  refine rz_iconst (v := 4) d_M_finds_82 (by decide) ?_
  refine rz_icmpge (tgt := 210) d_M_finds_83 rfl (fun b1 => ?_) (fun b1 => ?_)
  · skip
    refine rz_pure (pc' := 211) d_M_finds_210 rfl ?_
    refine rz_getr d_M_finds_211 f_12_195 rfl rfl ?_
    refine rz_iconst (v := 0) d_M_finds_214 (by decide) ?_
    refine rz_ialdv (F := S.1 124) (i := 0) d_M_finds_215 rfl (by decide) rfl (by decide) ?_
    refine rz_ifne (tgt := 221) d_M_finds_216 rfl (fun b2 => ?_) (fun b2 => ?_)
    · skip
      refine rz_pure (pc' := 222) d_M_finds_221 rfl ?_
      refine rz_getr d_M_finds_222 f_12_195 rfl rfl ?_
      refine rz_iconst (v := 0) d_M_finds_225 (by decide) ?_
      refine rz_ialdv (F := S.1 124) (i := 0) d_M_finds_226 rfl (by decide) rfl (by decide) ?_
      refine rz_pure (pc' := 229) (l' := [(5, .int (S.1 124 0)), (0, .ref 116), (1, .int a1), (2, .ref a2), (3, .int a3), (4, .int a4), (6, .int a6), (8, .int a8)]) d_M_finds_227 rfl ?_
      refine rz_pure (pc' := 230) d_M_finds_229 rfl ?_
      refine rz_getr d_M_finds_230 f_12_195 rfl rfl ?_
      refine rz_iconst (v := 1) d_M_finds_233 (by decide) ?_
      refine rz_ialdv (F := S.1 124) (i := 1) d_M_finds_234 rfl (by decide) rfl (by decide) ?_
      refine rz_pure (pc' := 237) (l' := [(6, .int (S.1 124 1)), (5, .int (S.1 124 0)), (0, .ref 116), (1, .int a1), (2, .ref a2), (3, .int a3), (4, .int a4), (8, .int a8)]) d_M_finds_235 rfl ?_
      refine rz_pure (pc' := 238) d_M_finds_237 rfl ?_
      refine rz_pure (pc' := 239) d_M_finds_238 rfl ?_
      refine rz_getiv (v := S.2 116 32) d_M_finds_239 f_12_192 rfl rfl rfl ?_
      refine rz_iconst (v := 1) d_M_finds_242 (by decide) ?_
      refine rz_iadd d_M_finds_243 ?_
      refine rz_puti d_M_finds_244 f_12_192 rfl rfl rfl ?_
      refine rz_pure (pc' := 12) d_M_finds_247 rfl ?_
      exact rz_pick (ks := [0, 1, 2, 3, 4, 5, 6]) (l := [(0, .ref 116), (1, .int a1), (2, .ref a2), (3, .int a3), (4, .int a4), (5, .int (S.1 124 0)), (6, .int (S.1 124 1))]) rfl rfl (by decide) rfl ((w.1 b1).2 b2)
    · skip
      refine rz_iconst (v := -1) d_M_finds_219 (by decide) ?_
      exact rz_ireti d_M_finds_220 rfl rfl ((w.1 b1).1 b2)
  · skip
    refine rz_pure (pc' := 87) d_M_finds_86 rfl ?_
    refine rz_getr d_M_finds_87 f_12_195 rfl rfl ?_
    refine rz_bipush (v := 16) d_M_finds_90 (by decide) ?_
    refine rz_pure (pc' := 94) d_M_finds_92 rfl ?_
    refine rz_imul d_M_finds_94 ?_
    refine rz_iconst (v := 2) d_M_finds_95 (by decide) ?_
    refine rz_iadd d_M_finds_96 ?_
    refine rz_ialdv (F := S.1 124) (i := ((16 * a8) + 2).toNatClampNeg) d_M_finds_97 rfl (w.2 b1).1 rfl rfl ?_
    refine rz_pure (pc' := 100) (l' := [(9, .int (S.1 124 (((16 * a8) + 2).toNatClampNeg))), (0, .ref 116), (1, .int a1), (2, .ref a2), (3, .int a3), (4, .int a4), (5, .int a5), (6, .int a6), (8, .int a8)]) d_M_finds_98 rfl ?_
    refine rz_pure (pc' := 101) d_M_finds_100 rfl ?_
    refine rz_iconst (v := 2) d_M_finds_101 (by decide) ?_
    refine rz_icmpne (tgt := 118) d_M_finds_102 rfl (fun b3 => ?_) (fun b3 => ?_)
    · skip
      refine rz_pure (pc' := 120) d_M_finds_118 rfl ?_
      refine rz_ifeq (tgt := 176) d_M_finds_120 rfl (fun b4 => ?_) (fun b4 => ?_)
      · skip
        exact rz_pick (ks := [0, 1, 2, 3, 4, 5, 6, 8]) (l := [(0, .ref 116), (1, .int a1), (2, .ref a2), (3, .int a3), (4, .int a4), (5, .int a5), (6, .int a6), (8, .int a8)]) rfl rfl (by decide) rfl (((w.2 b1).2.2 b3).1 b4)
      · skip
        refine rz_pure (pc' := 124) d_M_finds_123 rfl ?_
        refine rz_ifne (tgt := 151) d_M_finds_124 rfl (fun b5 => ?_) (fun b5 => ?_)
        · skip
          refine rz_pure (pc' := 152) d_M_finds_151 rfl ?_
          refine rz_pure (pc' := 153) d_M_finds_152 rfl ?_
          refine rz_pure (pc' := 155) d_M_finds_153 rfl ?_
          refine rz_pure (pc' := 156) d_M_finds_155 rfl ?_
          refine rz_getr d_M_finds_156 f_12_195 rfl rfl ?_
          refine rz_bipush (v := 16) d_M_finds_159 (by decide) ?_
          refine rz_pure (pc' := 163) d_M_finds_161 rfl ?_
          refine rz_imul d_M_finds_163 ?_
          refine rz_iconst (v := 5) d_M_finds_164 (by decide) ?_
          refine rz_iadd d_M_finds_165 ?_
          refine rz_callSi (t := [.int ((16 * a8) + 5), .ref 124, .int a4, .int a3, .ref a2]) d_M_finds_166 rfl w_12_208 rfl rfl ((((w.2 b1).2.2 b3).2 b4).2 b5) (fun xq6 Sq6 q6 => ?_)
          refine rz_ifeq (tgt := 176) d_M_finds_169 rfl (fun b7 => ?_) (fun b7 => ?_)
          · skip
            exact rz_pick (ks := [0, 1, 2, 3, 4, 5, 6, 8]) (l := [(0, .ref 116), (1, .int a1), (2, .ref a2), (3, .int a3), (4, .int a4), (5, .int a5), (6, .int a6), (8, .int a8)]) rfl rfl (by decide) rfl (q6.1 b7)
          · skip
            exact rz_pick (ks := [0, 1, 2, 3, 4, 5, 6, 8]) (l := [(0, .ref 116), (1, .int a1), (2, .ref a2), (3, .int a3), (4, .int a4), (5, .int a5), (6, .int a6), (8, .int a8)]) rfl rfl (by decide) rfl (q6.2 b7)
        · skip
          refine rz_pure (pc' := 128) d_M_finds_127 rfl ?_
          refine rz_pure (pc' := 129) d_M_finds_128 rfl ?_
          refine rz_pure (pc' := 131) d_M_finds_129 rfl ?_
          refine rz_pure (pc' := 132) d_M_finds_131 rfl ?_
          refine rz_getr d_M_finds_132 f_12_195 rfl rfl ?_
          refine rz_bipush (v := 16) d_M_finds_135 (by decide) ?_
          refine rz_pure (pc' := 139) d_M_finds_137 rfl ?_
          refine rz_imul d_M_finds_139 ?_
          refine rz_iconst (v := 5) d_M_finds_140 (by decide) ?_
          refine rz_iadd d_M_finds_141 ?_
          refine rz_callSi (t := [.int ((16 * a8) + 5), .ref 124, .int a4, .int a3, .ref a2]) d_M_finds_142 rfl w_12_204 rfl rfl ((((w.2 b1).2.2 b3).2 b4).1 b5) (fun xq8 Sq8 q8 => ?_)
          refine rz_ifeq (tgt := 176) d_M_finds_145 rfl (fun b9 => ?_) (fun b9 => ?_)
          · skip
            exact rz_pick (ks := [0, 1, 2, 3, 4, 5, 6, 8]) (l := [(0, .ref 116), (1, .int a1), (2, .ref a2), (3, .int a3), (4, .int a4), (5, .int a5), (6, .int a6), (8, .int a8)]) rfl rfl (by decide) rfl (q8.1 b9)
          · skip
            refine rz_pure (pc' := 172) d_M_finds_148 rfl ?_
            exact rz_pick (ks := [0, 1, 2, 3, 4, 5, 6, 8]) (l := [(0, .ref 116), (1, .int a1), (2, .ref a2), (3, .int a3), (4, .int a4), (5, .int a5), (6, .int a6), (8, .int a8)]) rfl rfl (by decide) rfl (q8.2 b9)
    · skip
      refine rz_pure (pc' := 107) d_M_finds_105 rfl ?_
      refine rz_ifne (tgt := 114) d_M_finds_107 rfl (fun b10 => ?_) (fun b10 => ?_)
      · skip
        refine rz_iconst (v := 0) d_M_finds_114 (by decide) ?_
        refine rz_pure (pc' := 177) d_M_finds_115 rfl ?_
        exact rz_pick (ks := [0, 1, 2, 3, 4, 5, 6, 8]) (l := [(0, .ref 116), (1, .int a1), (2, .ref a2), (3, .int a3), (4, .int a4), (5, .int a5), (6, .int a6), (8, .int a8)]) rfl rfl (by decide) rfl (((w.2 b1).2.1 b3).2 b10)
      · skip
        refine rz_iconst (v := 1) d_M_finds_110 (by decide) ?_
        refine rz_pure (pc' := 177) d_M_finds_111 rfl ?_
        exact rz_pick (ks := [0, 1, 2, 3, 4, 5, 6, 8]) (l := [(0, .ref 116), (1, .int a1), (2, .ref a2), (3, .int a3), (4, .int a4), (5, .int a5), (6, .int a6), (8, .int a8)]) rfl rfl (by decide) rfl (((w.2 b1).2.1 b3).1 b10)
theorem p_M_finds_176 {S : rz_S} {K : Int32 → rz_S → Prop} {a1 : Int32} {a2 na2 : Nat} (ha2 : rz_T[a2]? = some (.inl (0, na2))) {a3 : Int32} {a4 : Int32} {a5 : Int32} {a6 : Int32} {a8 : Int32} (w : rz mM_finds 177 [(0, .ref 116), (1, .int a1), (2, .ref a2), (3, .int a3), (4, .int a4), (5, .int a5), (6, .int a6), (8, .int a8)] [.int 0] S (rz_i K)) : rz mM_finds 176 [(0, .ref 116), (1, .int a1), (2, .ref a2), (3, .int a3), (4, .int a4), (5, .int a5), (6, .int a6), (8, .int a8)] [] S (rz_i K) := by
  refine rz_iconst (v := 0) d_M_finds_176 (by decide) ?_
  exact rz_pick (ks := [0, 1, 2, 3, 4, 5, 6, 8]) (l := [(0, .ref 116), (1, .int a1), (2, .ref a2), (3, .int a3), (4, .int a4), (5, .int a5), (6, .int a6), (8, .int a8)]) rfl rfl (by decide) rfl w
theorem p_M_finds_172 {S : rz_S} {K : Int32 → rz_S → Prop} {a1 : Int32} {a2 na2 : Nat} (ha2 : rz_T[a2]? = some (.inl (0, na2))) {a3 : Int32} {a4 : Int32} {a5 : Int32} {a6 : Int32} {a8 : Int32} (w : rz mM_finds 177 [(0, .ref 116), (1, .int a1), (2, .ref a2), (3, .int a3), (4, .int a4), (5, .int a5), (6, .int a6), (8, .int a8)] [.int 1] S (rz_i K)) : rz mM_finds 172 [(0, .ref 116), (1, .int a1), (2, .ref a2), (3, .int a3), (4, .int a4), (5, .int a5), (6, .int a6), (8, .int a8)] [] S (rz_i K) := by
  refine rz_iconst (v := 1) d_M_finds_172 (by decide) ?_
  refine rz_pure (pc' := 177) d_M_finds_173 rfl ?_
  exact rz_pick (ks := [0, 1, 2, 3, 4, 5, 6, 8]) (l := [(0, .ref 116), (1, .int a1), (2, .ref a2), (3, .int a3), (4, .int a4), (5, .int a5), (6, .int a6), (8, .int a8)]) rfl rfl (by decide) rfl w
theorem p_M_finds_177 {S : rz_S} {K : Int32 → rz_S → Prop} {a1 : Int32} {a2 na2 : Nat} (ha2 : rz_T[a2]? = some (.inl (0, na2))) {a3 : Int32} {a4 : Int32} {a5 : Int32} {a6 : Int32} {a8 : Int32} {s0 : Int32} (w : ((s0 = 0 → rz mM_finds 80 [(0, .ref 116), (1, .int a1), (2, .ref a2), (3, .int a3), (4, .int a4), (5, .int a5), (6, .int a6), (8, .int (a8 + 1))] [] S (rz_i K)) ∧ (¬ s0 = 0 → K 0 (rz_uI (rz_uI (rz_uI S 116 27 a5) 116 28 a6) 116 29 a8)))) : rz mM_finds 177 [(0, .ref 116), (1, .int a1), (2, .ref a2), (3, .int a3), (4, .int a4), (5, .int a5), (6, .int a6), (8, .int a8)] [.int s0] S (rz_i K) := by
  refine rz_pure (pc' := 179) (l' := [(10, .int s0), (0, .ref 116), (1, .int a1), (2, .ref a2), (3, .int a3), (4, .int a4), (5, .int a5), (6, .int a6), (8, .int a8)]) d_M_finds_177 rfl ?_
  refine rz_pure (pc' := 181) d_M_finds_179 rfl ?_
  refine rz_ifeq (tgt := 204) d_M_finds_181 rfl (fun b1 => ?_) (fun b1 => ?_)
  · skip
    refine rz_pure (pc' := 207) (l' := [(8, .int (a8 + 1)), (10, .int s0), (0, .ref 116), (1, .int a1), (2, .ref a2), (3, .int a3), (4, .int a4), (5, .int a5), (6, .int a6)]) d_M_finds_204 rfl ?_
    refine rz_pure (pc' := 80) d_M_finds_207 rfl ?_
    exact rz_pick (ks := [0, 1, 2, 3, 4, 5, 6, 8]) (l := [(0, .ref 116), (1, .int a1), (2, .ref a2), (3, .int a3), (4, .int a4), (5, .int a5), (6, .int a6), (8, .int (a8 + 1))]) rfl rfl (by decide) rfl (w.1 b1)
  · skip
    refine rz_pure (pc' := 185) d_M_finds_184 rfl ?_
    refine rz_pure (pc' := 187) d_M_finds_185 rfl ?_
    refine rz_puti d_M_finds_187 f_12_211 rfl rfl rfl ?_
    refine rz_pure (pc' := 191) d_M_finds_190 rfl ?_
    refine rz_pure (pc' := 193) d_M_finds_191 rfl ?_
    refine rz_puti d_M_finds_193 f_12_214 rfl rfl rfl ?_
    refine rz_pure (pc' := 197) d_M_finds_196 rfl ?_
    refine rz_pure (pc' := 199) d_M_finds_197 rfl ?_
    refine rz_puti d_M_finds_199 f_12_217 rfl rfl rfl ?_
    refine rz_iconst (v := 0) d_M_finds_202 (by decide) ?_
    exact rz_ireti d_M_finds_203 rfl rfl (w.2 b1)
theorem d_M_changesType_0 : decode (rm_code mM_changesType) 0 = .ok (.aload_n 0, 1) := by decide +kernel
theorem d_M_changesType_1 : decode (rm_code mM_changesType) 1 = .ok (.iload_n 1, 1) := by decide +kernel
theorem d_M_changesType_2 : decode (rm_code mM_changesType) 2 = .ok (.iload_n 2, 1) := by decide +kernel
theorem d_M_changesType_3 : decode (rm_code mM_changesType) 3 = .ok (.aload_n 0, 1) := by decide +kernel
theorem d_M_changesType_4 : decode (rm_code mM_changesType) 4 = .ok (.getfield 186, 3) := by decide +kernel
theorem d_M_changesType_7 : decode (rm_code mM_changesType) 7 = .ok (.iconst 0, 1) := by decide +kernel
theorem d_M_changesType_8 : decode (rm_code mM_changesType) 8 = .ok (.invokevirtual 148, 3) := by decide +kernel
theorem d_M_changesType_11 : decode (rm_code mM_changesType) 11 = .ok (.istore 5, 2) := by decide +kernel
theorem d_M_changesType_13 : decode (rm_code mM_changesType) 13 = .ok (.iload 5, 2) := by decide +kernel
theorem d_M_changesType_15 : decode (rm_code mM_changesType) 15 = .ok (.ifCond .eq (6), 3) := by decide +kernel
theorem d_M_changesType_18 : decode (rm_code mM_changesType) 18 = .ok (.iload 5, 2) := by decide +kernel
theorem d_M_changesType_20 : decode (rm_code mM_changesType) 20 = .ok (.ireturn, 1) := by decide +kernel
theorem d_M_changesType_21 : decode (rm_code mM_changesType) 21 = .ok (.aload_n 0, 1) := by decide +kernel
theorem d_M_changesType_22 : decode (rm_code mM_changesType) 22 = .ok (.getfield 186, 3) := by decide +kernel
theorem d_M_changesType_25 : decode (rm_code mM_changesType) 25 = .ok (.bipush (16), 2) := by decide +kernel
theorem d_M_changesType_27 : decode (rm_code mM_changesType) 27 = .ok (.iload_n 3, 1) := by decide +kernel
theorem d_M_changesType_28 : decode (rm_code mM_changesType) 28 = .ok (.imul, 1) := by decide +kernel
theorem d_M_changesType_29 : decode (rm_code mM_changesType) 29 = .ok (.iconst 2, 1) := by decide +kernel
theorem d_M_changesType_30 : decode (rm_code mM_changesType) 30 = .ok (.iadd, 1) := by decide +kernel
theorem d_M_changesType_31 : decode (rm_code mM_changesType) 31 = .ok (.iload 4, 2) := by decide +kernel
theorem d_M_changesType_33 : decode (rm_code mM_changesType) 33 = .ok (.iastore, 1) := by decide +kernel
theorem d_M_changesType_34 : decode (rm_code mM_changesType) 34 = .ok (.aload_n 0, 1) := by decide +kernel
theorem d_M_changesType_35 : decode (rm_code mM_changesType) 35 = .ok (.iload_n 1, 1) := by decide +kernel
theorem d_M_changesType_36 : decode (rm_code mM_changesType) 36 = .ok (.iload_n 2, 1) := by decide +kernel
theorem d_M_changesType_37 : decode (rm_code mM_changesType) 37 = .ok (.aload_n 0, 1) := by decide +kernel
theorem d_M_changesType_38 : decode (rm_code mM_changesType) 38 = .ok (.getfield 186, 3) := by decide +kernel
theorem d_M_changesType_41 : decode (rm_code mM_changesType) 41 = .ok (.iconst 0, 1) := by decide +kernel
theorem d_M_changesType_42 : decode (rm_code mM_changesType) 42 = .ok (.invokevirtual 152, 3) := by decide +kernel
theorem d_M_changesType_45 : decode (rm_code mM_changesType) 45 = .ok (.ireturn, 1) := by decide +kernel
theorem p_M_changesType_0 {S : rz_S} {K : Int32 → rz_S → Prop} {a1 : Int32} {a2 : Int32} {a3 : Int32} {a4 : Int32} (w : rz_ev mM_readBlock [.ref 116, .int a1, .int a2, .ref 125, .int 0] S (rz_i (fun xq1 Sq1 => ((xq1 = 0 → rx_in ((16 * a3) + 2) 64 = true ∧ rz_ev mM_writeBlock [.ref 116, .int a1, .int a2, .ref 125, .int 0] (rz_fA Sq1 125 (upd (Sq1.1 125) (((16 * a3) + 2).toNatClampNeg) a4)) (rz_i (fun xq3 Sq3 => K xq3 Sq3))) ∧ (¬ xq1 = 0 → K xq1 Sq1))))) : rz mM_changesType 0 [(0, .ref 116), (1, .int a1), (2, .int a2), (3, .int a3), (4, .int a4)] [] S (rz_i K) := by
  refine rz_pure (pc' := 1) d_M_changesType_0 rfl ?_
  refine rz_pure (pc' := 2) d_M_changesType_1 rfl ?_
  refine rz_pure (pc' := 3) d_M_changesType_2 rfl ?_
  refine rz_pure (pc' := 4) d_M_changesType_3 rfl ?_
  refine rz_getr d_M_changesType_4 f_12_186 rfl rfl ?_
  refine rz_iconst (v := 0) d_M_changesType_7 (by decide) ?_
  refine rz_callVi (t := [.int 0, .ref 125, .int a2, .int a1]) d_M_changesType_8 w_12_148 rfl rfl rfl w (fun xq1 Sq1 q1 => ?_)
  refine rz_pure (pc' := 13) (l' := [(5, .int xq1), (0, .ref 116), (1, .int a1), (2, .int a2), (3, .int a3), (4, .int a4)]) d_M_changesType_11 rfl ?_
  refine rz_pure (pc' := 15) d_M_changesType_13 rfl ?_
  refine rz_ifeq (tgt := 21) d_M_changesType_15 rfl (fun b2 => ?_) (fun b2 => ?_)
  · skip
    refine rz_pure (pc' := 22) d_M_changesType_21 rfl ?_
    refine rz_getr d_M_changesType_22 f_12_186 rfl rfl ?_
    refine rz_bipush (v := 16) d_M_changesType_25 (by decide) ?_
    refine rz_pure (pc' := 28) d_M_changesType_27 rfl ?_
    refine rz_imul d_M_changesType_28 ?_
    refine rz_iconst (v := 2) d_M_changesType_29 (by decide) ?_
    refine rz_iadd d_M_changesType_30 ?_
    refine rz_pure (pc' := 33) d_M_changesType_31 rfl ?_
    refine rz_iastv (F := Sq1.1 125) (i := ((16 * a3) + 2).toNatClampNeg) d_M_changesType_33 rfl (q1.1 b2).1 rfl rfl ?_
    refine rz_pure (pc' := 35) d_M_changesType_34 rfl ?_
    refine rz_pure (pc' := 36) d_M_changesType_35 rfl ?_
    refine rz_pure (pc' := 37) d_M_changesType_36 rfl ?_
    refine rz_pure (pc' := 38) d_M_changesType_37 rfl ?_
    refine rz_getr d_M_changesType_38 f_12_186 rfl rfl ?_
    refine rz_iconst (v := 0) d_M_changesType_41 (by decide) ?_
    refine rz_callVi (t := [.int 0, .ref 125, .int a2, .int a1]) d_M_changesType_42 w_12_152 rfl rfl rfl (q1.1 b2).2 (fun xq3 Sq3 q3 => ?_)
    exact rz_ireti d_M_changesType_45 rfl rfl q3
  · skip
    refine rz_pure (pc' := 20) d_M_changesType_18 rfl ?_
    exact rz_ireti d_M_changesType_20 rfl rfl (q1.2 b2)
theorem d_M_scratches_0 : decode (rm_code mM_scratches) 0 = .ok (.aload_n 0, 1) := by decide +kernel
theorem d_M_scratches_1 : decode (rm_code mM_scratches) 1 = .ok (.getfield 211, 3) := by decide +kernel
theorem d_M_scratches_4 : decode (rm_code mM_scratches) 4 = .ok (.istore_n 1, 1) := by decide +kernel
theorem d_M_scratches_5 : decode (rm_code mM_scratches) 5 = .ok (.aload_n 0, 1) := by decide +kernel
theorem d_M_scratches_6 : decode (rm_code mM_scratches) 6 = .ok (.getfield 214, 3) := by decide +kernel
theorem d_M_scratches_9 : decode (rm_code mM_scratches) 9 = .ok (.istore_n 2, 1) := by decide +kernel
theorem d_M_scratches_10 : decode (rm_code mM_scratches) 10 = .ok (.aload_n 0, 1) := by decide +kernel
theorem d_M_scratches_11 : decode (rm_code mM_scratches) 11 = .ok (.getfield 217, 3) := by decide +kernel
theorem d_M_scratches_14 : decode (rm_code mM_scratches) 14 = .ok (.istore_n 3, 1) := by decide +kernel
theorem d_M_scratches_15 : decode (rm_code mM_scratches) 15 = .ok (.aload_n 0, 1) := by decide +kernel
theorem d_M_scratches_16 : decode (rm_code mM_scratches) 16 = .ok (.aload_n 0, 1) := by decide +kernel
theorem d_M_scratches_17 : decode (rm_code mM_scratches) 17 = .ok (.getfield 195, 3) := by decide +kernel
theorem d_M_scratches_20 : decode (rm_code mM_scratches) 20 = .ok (.bipush (16), 2) := by decide +kernel
theorem d_M_scratches_22 : decode (rm_code mM_scratches) 22 = .ok (.iload_n 3, 1) := by decide +kernel
theorem d_M_scratches_23 : decode (rm_code mM_scratches) 23 = .ok (.imul, 1) := by decide +kernel
theorem d_M_scratches_24 : decode (rm_code mM_scratches) 24 = .ok (.iconst 3, 1) := by decide +kernel
theorem d_M_scratches_25 : decode (rm_code mM_scratches) 25 = .ok (.iadd, 1) := by decide +kernel
theorem d_M_scratches_26 : decode (rm_code mM_scratches) 26 = .ok (.iaload, 1) := by decide +kernel
theorem d_M_scratches_27 : decode (rm_code mM_scratches) 27 = .ok (.aload_n 0, 1) := by decide +kernel
theorem d_M_scratches_28 : decode (rm_code mM_scratches) 28 = .ok (.getfield 195, 3) := by decide +kernel
theorem d_M_scratches_31 : decode (rm_code mM_scratches) 31 = .ok (.bipush (16), 2) := by decide +kernel
theorem d_M_scratches_33 : decode (rm_code mM_scratches) 33 = .ok (.iload_n 3, 1) := by decide +kernel
theorem d_M_scratches_34 : decode (rm_code mM_scratches) 34 = .ok (.imul, 1) := by decide +kernel
theorem d_M_scratches_35 : decode (rm_code mM_scratches) 35 = .ok (.iconst 4, 1) := by decide +kernel
theorem d_M_scratches_36 : decode (rm_code mM_scratches) 36 = .ok (.iadd, 1) := by decide +kernel
theorem d_M_scratches_37 : decode (rm_code mM_scratches) 37 = .ok (.iaload, 1) := by decide +kernel
theorem d_M_scratches_38 : decode (rm_code mM_scratches) 38 = .ok (.invokevirtual 220, 3) := by decide +kernel
theorem d_M_scratches_41 : decode (rm_code mM_scratches) 41 = .ok (.istore 4, 2) := by decide +kernel
theorem d_M_scratches_43 : decode (rm_code mM_scratches) 43 = .ok (.iload 4, 2) := by decide +kernel
theorem d_M_scratches_45 : decode (rm_code mM_scratches) 45 = .ok (.ifCond .eq (8), 3) := by decide +kernel
theorem d_M_scratches_48 : decode (rm_code mM_scratches) 48 = .ok (.iload 4, 2) := by decide +kernel
theorem d_M_scratches_50 : decode (rm_code mM_scratches) 50 = .ok (.goto (11), 3) := by decide +kernel
theorem d_M_scratches_53 : decode (rm_code mM_scratches) 53 = .ok (.aload_n 0, 1) := by decide +kernel
theorem d_M_scratches_54 : decode (rm_code mM_scratches) 54 = .ok (.iload_n 1, 1) := by decide +kernel
theorem d_M_scratches_55 : decode (rm_code mM_scratches) 55 = .ok (.iload_n 2, 1) := by decide +kernel
theorem d_M_scratches_56 : decode (rm_code mM_scratches) 56 = .ok (.iload_n 3, 1) := by decide +kernel
theorem d_M_scratches_57 : decode (rm_code mM_scratches) 57 = .ok (.iconst 0, 1) := by decide +kernel
theorem d_M_scratches_58 : decode (rm_code mM_scratches) 58 = .ok (.invokevirtual 223, 3) := by decide +kernel
theorem d_M_scratches_61 : decode (rm_code mM_scratches) 61 = .ok (.ireturn, 1) := by decide +kernel
theorem p_M_scratches_0 {S : rz_S} {K : Int32 → rz_S → Prop} (w : rx_in ((16 * (S.2 116 29)) + 3) 64 = true ∧ rx_in ((16 * (S.2 116 29)) + 4) 64 = true ∧ rz_ev mM_freesChain [.ref 116, .int (S.1 124 (((16 * (S.2 116 29)) + 3).toNatClampNeg)), .int (S.1 124 (((16 * (S.2 116 29)) + 4).toNatClampNeg))] S (rz_i (fun xq1 Sq1 => ((xq1 = 0 → rz_ev mM_changesType [.ref 116, .int (S.2 116 27), .int (S.2 116 28), .int (S.2 116 29), .int 0] Sq1 (rz_i (fun xq3 Sq3 => K xq3 Sq3))) ∧ (¬ xq1 = 0 → K xq1 Sq1))))) : rz mM_scratches 0 [(0, .ref 116)] [] S (rz_i K) := by
  refine rz_pure (pc' := 1) d_M_scratches_0 rfl ?_
  refine rz_getiv (v := S.2 116 27) d_M_scratches_1 f_12_211 rfl rfl rfl ?_
  refine rz_pure (pc' := 5) (l' := [(1, .int (S.2 116 27)), (0, .ref 116)]) d_M_scratches_4 rfl ?_
  refine rz_pure (pc' := 6) d_M_scratches_5 rfl ?_
  refine rz_getiv (v := S.2 116 28) d_M_scratches_6 f_12_214 rfl rfl rfl ?_
  refine rz_pure (pc' := 10) (l' := [(2, .int (S.2 116 28)), (1, .int (S.2 116 27)), (0, .ref 116)]) d_M_scratches_9 rfl ?_
  refine rz_pure (pc' := 11) d_M_scratches_10 rfl ?_
  refine rz_getiv (v := S.2 116 29) d_M_scratches_11 f_12_217 rfl rfl rfl ?_
  refine rz_pure (pc' := 15) (l' := [(3, .int (S.2 116 29)), (2, .int (S.2 116 28)), (1, .int (S.2 116 27)), (0, .ref 116)]) d_M_scratches_14 rfl ?_
  refine rz_pure (pc' := 16) d_M_scratches_15 rfl ?_
  refine rz_pure (pc' := 17) d_M_scratches_16 rfl ?_
  refine rz_getr d_M_scratches_17 f_12_195 rfl rfl ?_
  refine rz_bipush (v := 16) d_M_scratches_20 (by decide) ?_
  refine rz_pure (pc' := 23) d_M_scratches_22 rfl ?_
  refine rz_imul d_M_scratches_23 ?_
  refine rz_iconst (v := 3) d_M_scratches_24 (by decide) ?_
  refine rz_iadd d_M_scratches_25 ?_
  refine rz_ialdv (F := S.1 124) (i := ((16 * (S.2 116 29)) + 3).toNatClampNeg) d_M_scratches_26 rfl w.1 rfl rfl ?_
  refine rz_pure (pc' := 28) d_M_scratches_27 rfl ?_
  refine rz_getr d_M_scratches_28 f_12_195 rfl rfl ?_
  refine rz_bipush (v := 16) d_M_scratches_31 (by decide) ?_
  refine rz_pure (pc' := 34) d_M_scratches_33 rfl ?_
  refine rz_imul d_M_scratches_34 ?_
  refine rz_iconst (v := 4) d_M_scratches_35 (by decide) ?_
  refine rz_iadd d_M_scratches_36 ?_
  refine rz_ialdv (F := S.1 124) (i := ((16 * (S.2 116 29)) + 4).toNatClampNeg) d_M_scratches_37 rfl w.2.1 rfl rfl ?_
  refine rz_callVi (t := [.int (S.1 124 (((16 * (S.2 116 29)) + 4).toNatClampNeg)), .int (S.1 124 (((16 * (S.2 116 29)) + 3).toNatClampNeg))]) d_M_scratches_38 w_12_220 rfl rfl rfl w.2.2 (fun xq1 Sq1 q1 => ?_)
  refine rz_pure (pc' := 43) (l' := [(4, .int xq1), (3, .int (S.2 116 29)), (2, .int (S.2 116 28)), (1, .int (S.2 116 27)), (0, .ref 116)]) d_M_scratches_41 rfl ?_
  refine rz_pure (pc' := 45) d_M_scratches_43 rfl ?_
  refine rz_ifeq (tgt := 53) d_M_scratches_45 rfl (fun b2 => ?_) (fun b2 => ?_)
  · skip
    refine rz_pure (pc' := 54) d_M_scratches_53 rfl ?_
    refine rz_pure (pc' := 55) d_M_scratches_54 rfl ?_
    refine rz_pure (pc' := 56) d_M_scratches_55 rfl ?_
    refine rz_pure (pc' := 57) d_M_scratches_56 rfl ?_
    refine rz_iconst (v := 0) d_M_scratches_57 (by decide) ?_
    refine rz_callVi (t := [.int 0, .int (S.2 116 29), .int (S.2 116 28), .int (S.2 116 27)]) d_M_scratches_58 w_12_223 rfl rfl rfl (q1.1 b2) (fun xq3 Sq3 q3 => ?_)
    exact rz_ireti d_M_scratches_61 rfl rfl q3
  · skip
    refine rz_pure (pc' := 50) d_M_scratches_48 rfl ?_
    refine rz_pure (pc' := 61) d_M_scratches_50 rfl ?_
    exact rz_ireti d_M_scratches_61 rfl rfl (q1.2 b2)
theorem p_M_sets_0 {S : rz_S} {K : rz_S → Prop} {a1 : Int32} {a2 : Int32} {a3 : Int32} (w : K (rz_uI (rz_uI (rz_uI (rz_uI S 116 56 a1) 116 57 a2) 116 58 a3) 116 59 0)) : rz mM_sets 0 [(0, .ref 116), (1, .int a1), (2, .int a2), (3, .int a3)] [] S (rz_v K) := by
  refine rz_pure (pc' := 1) d_M_sets_0 rfl ?_
  refine rz_pure (pc' := 2) d_M_sets_1 rfl ?_
  refine rz_puti d_M_sets_2 f_12_227 rfl rfl rfl ?_
  refine rz_pure (pc' := 6) d_M_sets_5 rfl ?_
  refine rz_pure (pc' := 7) d_M_sets_6 rfl ?_
  refine rz_puti d_M_sets_7 f_12_230 rfl rfl rfl ?_
  refine rz_pure (pc' := 11) d_M_sets_10 rfl ?_
  refine rz_pure (pc' := 12) d_M_sets_11 rfl ?_
  refine rz_puti d_M_sets_12 f_12_233 rfl rfl rfl ?_
  refine rz_pure (pc' := 16) d_M_sets_15 rfl ?_
  refine rz_iconst (v := 0) d_M_sets_16 (by decide) ?_
  refine rz_puti d_M_sets_17 f_12_236 rfl rfl rfl ?_
  exact rz_vretv d_M_sets_20 rfl w
theorem p_M_begins_0 {S : rz_S} {K : rz_S → Prop} (w : rz_ev mM_sets [.ref 116, .int 0, .int 0, .int 0] S (rz_v (fun Sq1 => K (rz_uI (rz_uI Sq1 116 61 0) 116 62 0)))) : rz mM_begins 0 [(0, .ref 116)] [] S (rz_v K) := by
  refine rz_pure (pc' := 1) d_M_begins_0 rfl ?_
  refine rz_iconst (v := 0) d_M_begins_1 (by decide) ?_
  refine rz_iconst (v := 0) d_M_begins_2 (by decide) ?_
  refine rz_iconst (v := 0) d_M_begins_3 (by decide) ?_
  refine rz_callVv (t := [.int 0, .int 0, .int 0]) d_M_begins_4 w_12_239 rfl rfl rfl w (fun Sq1 q1 => ?_)
  refine rz_pure (pc' := 8) d_M_begins_7 rfl ?_
  refine rz_iconst (v := 0) d_M_begins_8 (by decide) ?_
  refine rz_puti d_M_begins_9 f_12_242 rfl rfl rfl ?_
  refine rz_pure (pc' := 13) d_M_begins_12 rfl ?_
  refine rz_iconst (v := 0) d_M_begins_13 (by decide) ?_
  refine rz_puti d_M_begins_14 f_12_245 rfl rfl rfl ?_
  exact rz_vretv d_M_begins_17 rfl q1
theorem d_M_ends_0 : decode (rm_code mM_ends) 0 = .ok (.iload_n 1, 1) := by decide +kernel
theorem d_M_ends_1 : decode (rm_code mM_ends) 1 = .ok (.ifCond .eq (16), 3) := by decide +kernel
theorem d_M_ends_4 : decode (rm_code mM_ends) 4 = .ok (.aload_n 0, 1) := by decide +kernel
theorem d_M_ends_5 : decode (rm_code mM_ends) 5 = .ok (.iload_n 1, 1) := by decide +kernel
theorem d_M_ends_6 : decode (rm_code mM_ends) 6 = .ok (.aload_n 0, 1) := by decide +kernel
theorem d_M_ends_7 : decode (rm_code mM_ends) 7 = .ok (.getfield 7, 3) := by decide +kernel
theorem d_M_ends_10 : decode (rm_code mM_ends) 10 = .ok (.aload_n 0, 1) := by decide +kernel
theorem d_M_ends_11 : decode (rm_code mM_ends) 11 = .ok (.getfield 11, 3) := by decide +kernel
theorem d_M_ends_14 : decode (rm_code mM_ends) 14 = .ok (.invokevirtual 239, 3) := by decide +kernel
theorem d_M_ends_17 : decode (rm_code mM_ends) 17 = .ok (.aload_n 0, 1) := by decide +kernel
theorem d_M_ends_18 : decode (rm_code mM_ends) 18 = .ok (.getfield 227, 3) := by decide +kernel
theorem d_M_ends_21 : decode (rm_code mM_ends) 21 = .ok (.ireturn, 1) := by decide +kernel
theorem p_M_ends_0 {S : rz_S} {K : Int32 → rz_S → Prop} {a1 : Int32} (w : ((a1 = 0 → K (S.2 116 56) S) ∧ (¬ a1 = 0 → rz_ev mM_sets [.ref 116, .int a1, .int (S.2 116 4), .int (S.2 116 5)] S (rz_v (fun Sq2 => K (Sq2.2 116 56) Sq2))))) : rz mM_ends 0 [(0, .ref 116), (1, .int a1)] [] S (rz_i K) := by
  refine rz_pure (pc' := 1) d_M_ends_0 rfl ?_
  refine rz_ifeq (tgt := 17) d_M_ends_1 rfl (fun b1 => ?_) (fun b1 => ?_)
  · skip
    refine rz_pure (pc' := 18) d_M_ends_17 rfl ?_
    refine rz_getiv (v := S.2 116 56) d_M_ends_18 f_12_227 rfl rfl rfl ?_
    exact rz_ireti d_M_ends_21 rfl rfl (w.1 b1)
  · skip
    refine rz_pure (pc' := 5) d_M_ends_4 rfl ?_
    refine rz_pure (pc' := 6) d_M_ends_5 rfl ?_
    refine rz_pure (pc' := 7) d_M_ends_6 rfl ?_
    refine rz_getiv (v := S.2 116 4) d_M_ends_7 f_12_7 rfl rfl rfl ?_
    refine rz_pure (pc' := 11) d_M_ends_10 rfl ?_
    refine rz_getiv (v := S.2 116 5) d_M_ends_11 f_12_11 rfl rfl rfl ?_
    refine rz_callVv (t := [.int (S.2 116 5), .int (S.2 116 4), .int a1]) d_M_ends_14 w_12_239 rfl rfl rfl (w.2 b1) (fun Sq2 q2 => ?_)
    refine rz_pure (pc' := 18) d_M_ends_17 rfl ?_
    refine rz_getiv (v := Sq2.2 116 56) d_M_ends_18 f_12_227 rfl rfl rfl ?_
    exact rz_ireti d_M_ends_21 rfl rfl q2
theorem p_M_openMany_0 {S : rz_S} {K : Int32 → rz_S → Prop} (w : rz mM_openMany 4 [(0, .ref 116), (1, .int 0), (2, .int 0)] [] S (rz_i K)) : rz mM_openMany 0 [(0, .ref 116)] [] S (rz_i K) := by
  refine rz_iconst (v := 0) d_M_openMany_0 (by decide) ?_
  refine rz_pure (pc' := 2) (l' := [(1, .int 0), (0, .ref 116)]) d_M_openMany_1 rfl ?_
  refine rz_iconst (v := 0) d_M_openMany_2 (by decide) ?_
  refine rz_pure (pc' := 4) (l' := [(2, .int 0), (1, .int 0), (0, .ref 116)]) d_M_openMany_3 rfl ?_
  exact rz_pick (ks := [0, 1, 2]) (l := [(0, .ref 116), (1, .int 0), (2, .int 0)]) rfl rfl (by decide) rfl w
theorem p_M_openMany_4 {S : rz_S} {K : Int32 → rz_S → Prop} {a1 : Int32} {a2 : Int32} (w : ((15 ≤ a2 → K a1 S) ∧ (¬ 15 ≤ a2 → rx_in a2 15 = true ∧ ((S.1 126 a2.toNatClampNeg = 0 → rz mM_openMany 4 [(0, .ref 116), (1, .int (a1 + 0)), (2, .int (a2 + 1))] [] S (rz_i K)) ∧ (¬ S.1 126 a2.toNatClampNeg = 0 → rz mM_openMany 4 [(0, .ref 116), (1, .int (a1 + 1)), (2, .int (a2 + 1))] [] S (rz_i K)))))) : rz mM_openMany 4 [(0, .ref 116), (1, .int a1), (2, .int a2)] [] S (rz_i K) := by
  refine rz_pure (pc' := 5) d_M_openMany_4 rfl ?_
  refine rz_bipush (v := 15) d_M_openMany_5 (by decide) ?_
  refine rz_icmpge (tgt := 33) d_M_openMany_7 rfl (fun b1 => ?_) (fun b1 => ?_)
  · skip
    refine rz_pure (pc' := 34) d_M_openMany_33 rfl ?_
    exact rz_ireti d_M_openMany_34 rfl rfl (w.1 b1)
  · skip
    refine rz_pure (pc' := 11) d_M_openMany_10 rfl ?_
    refine rz_pure (pc' := 12) d_M_openMany_11 rfl ?_
    refine rz_getr d_M_openMany_12 f_12_248 rfl rfl ?_
    refine rz_pure (pc' := 16) d_M_openMany_15 rfl ?_
    refine rz_ialdv (F := S.1 126) (i := a2.toNatClampNeg) d_M_openMany_16 rfl (w.2 b1).1 rfl rfl ?_
    refine rz_ifeq (tgt := 24) d_M_openMany_17 rfl (fun b2 => ?_) (fun b2 => ?_)
    · skip
      refine rz_iconst (v := 0) d_M_openMany_24 (by decide) ?_
      refine rz_iadd d_M_openMany_25 ?_
      refine rz_pure (pc' := 27) (l' := [(1, .int (a1 + 0)), (0, .ref 116), (2, .int a2)]) d_M_openMany_26 rfl ?_
      refine rz_pure (pc' := 30) (l' := [(2, .int (a2 + 1)), (1, .int (a1 + 0)), (0, .ref 116)]) d_M_openMany_27 rfl ?_
      refine rz_pure (pc' := 4) d_M_openMany_30 rfl ?_
      exact rz_pick (ks := [0, 1, 2]) (l := [(0, .ref 116), (1, .int (a1 + 0)), (2, .int (a2 + 1))]) rfl rfl (by decide) rfl ((w.2 b1).2.1 b2)
    · skip
      refine rz_iconst (v := 1) d_M_openMany_20 (by decide) ?_
      refine rz_pure (pc' := 25) d_M_openMany_21 rfl ?_
      refine rz_iadd d_M_openMany_25 ?_
      refine rz_pure (pc' := 27) (l' := [(1, .int (a1 + 1)), (0, .ref 116), (2, .int a2)]) d_M_openMany_26 rfl ?_
      refine rz_pure (pc' := 30) (l' := [(2, .int (a2 + 1)), (1, .int (a1 + 1)), (0, .ref 116)]) d_M_openMany_27 rfl ?_
      refine rz_pure (pc' := 4) d_M_openMany_30 rfl ?_
      exact rz_pick (ks := [0, 1, 2]) (l := [(0, .ref 116), (1, .int (a1 + 1)), (2, .int (a2 + 1))]) rfl rfl (by decide) rfl ((w.2 b1).2.2 b2)
theorem p_M_types_0 {S : rz_S} {K : rz_S → Prop} {a1 : Int32} (w : rz mM_types 2 [(0, .ref 116), (1, .int a1), (2, .int 3)] [] S (rz_v K)) : rz mM_types 0 [(0, .ref 116), (1, .int a1)] [] S (rz_v K) := by
  refine rz_iconst (v := 3) d_M_types_0 (by decide) ?_
  refine rz_pure (pc' := 2) (l' := [(2, .int 3), (0, .ref 116), (1, .int a1)]) d_M_types_1 rfl ?_
  exact rz_pick (ks := [0, 1, 2]) (l := [(0, .ref 116), (1, .int a1), (2, .int 3)]) rfl rfl (by decide) rfl w
theorem p_M_types_2 {S : rz_S} {K : rz_S → Prop} {a1 : Int32} {a2 : Int32} (w : ((a2 < 0 → K S) ∧ (¬ a2 < 0 → rx_in (S.2 116 64) 400 = true ∧ rz mM_types 2 [(0, .ref 116), (1, .int a1), (2, .int (a2 + (-1)))] [] (rz_uI (rz_fA S 150 (upd (S.1 150) ((S.2 116 64).toNatClampNeg) (vp_nar .byte ((a1 >>> ((8 * a2) &&& 31)).toInt8.toInt32)))) 116 64 ((S.2 116 64) + 1)) (rz_v K)))) : rz mM_types 2 [(0, .ref 116), (1, .int a1), (2, .int a2)] [] S (rz_v K) := by
  refine rz_pure (pc' := 3) d_M_types_2 rfl ?_
  refine rz_iflt (tgt := 38) d_M_types_3 rfl (fun b1 => ?_) (fun b1 => ?_)
  · skip
    exact rz_vretv d_M_types_38 rfl (w.1 b1)
  · skip
    refine rz_pure (pc' := 7) d_M_types_6 rfl ?_
    refine rz_getr d_M_types_7 f_12_251 rfl rfl ?_
    refine rz_pure (pc' := 11) d_M_types_10 rfl ?_
    refine rz_getiv (v := S.2 116 64) d_M_types_11 f_12_254 rfl rfl rfl ?_
    refine rz_pure (pc' := 15) d_M_types_14 rfl ?_
    refine rz_bipush (v := 8) d_M_types_15 (by decide) ?_
    refine rz_pure (pc' := 18) d_M_types_17 rfl ?_
    refine rz_imul d_M_types_18 ?_
    refine rz_ishr d_M_types_19 ?_
    refine rz_i2b d_M_types_20 ?_
    refine rz_bastv (F := S.1 150) (i := (S.2 116 64).toNatClampNeg) d_M_types_21 rfl (w.2 b1).1 rfl rfl ?_
    refine rz_pure (pc' := 23) d_M_types_22 rfl ?_
    refine rz_pure (pc' := 24) d_M_types_23 rfl ?_
    refine rz_getiv (v := S.2 116 64) d_M_types_24 f_12_254 rfl rfl rfl ?_
    refine rz_iconst (v := 1) d_M_types_27 (by decide) ?_
    refine rz_iadd d_M_types_28 ?_
    refine rz_puti d_M_types_29 f_12_254 rfl rfl rfl ?_
    refine rz_pure (pc' := 35) (l' := [(2, .int (a2 + (-1))), (0, .ref 116), (1, .int a1)]) d_M_types_32 rfl ?_
    refine rz_pure (pc' := 2) d_M_types_35 rfl ?_
    exact rz_pick (ks := [0, 1, 2]) (l := [(0, .ref 116), (1, .int a1), (2, .int (a2 + (-1)))]) rfl rfl (by decide) rfl (w.2 b1).2
theorem p_M_feed_0 {S : rz_S} {K : Int32 → rz_S → Prop} {a1 : Int32} {a2 : Int32} {a3 : Int32} {a4 : Int32} {a5 : Int32} (w : (((S.2 116 64) + 20 ≤ 400 → rz_ev mM_types [.ref 116, .int a1] S (rz_v (fun Sq2 => rz_ev mM_types [.ref 116, .int a2] Sq2 (rz_v (fun Sq3 => rz_ev mM_types [.ref 116, .int a3] Sq3 (rz_v (fun Sq4 => rz_ev mM_types [.ref 116, .int a4] Sq4 (rz_v (fun Sq5 => rz_ev mM_types [.ref 116, .int a5] Sq5 (rz_v (fun Sq6 => K (Sq6.2 116 64) Sq6))))))))))) ∧ (¬ (S.2 116 64) + 20 ≤ 400 → K (-1) S))) : rz mM_feed 0 [(0, .ref 116), (1, .int a1), (2, .int a2), (3, .int a3), (4, .int a4), (5, .int a5)] [] S (rz_i K) := by
  refine rz_pure (pc' := 1) d_M_feed_0 rfl ?_
  refine rz_getiv (v := S.2 116 64) d_M_feed_1 f_12_254 rfl rfl rfl ?_
  refine rz_bipush (v := 20) d_M_feed_4 (by decide) ?_
  refine rz_iadd d_M_feed_6 ?_
  refine rz_sipush (v := 400) d_M_feed_7 (by decide) ?_
  refine rz_icmple (tgt := 15) d_M_feed_10 rfl (fun b1 => ?_) (fun b1 => ?_)
  · skip
    refine rz_pure (pc' := 16) d_M_feed_15 rfl ?_
    refine rz_pure (pc' := 17) d_M_feed_16 rfl ?_
    refine rz_callVv (t := [.int a1]) d_M_feed_17 w_12_257 rfl rfl rfl (w.1 b1) (fun Sq2 q2 => ?_)
    refine rz_pure (pc' := 21) d_M_feed_20 rfl ?_
    refine rz_pure (pc' := 22) d_M_feed_21 rfl ?_
    refine rz_callVv (t := [.int a2]) d_M_feed_22 w_12_257 rfl rfl rfl q2 (fun Sq3 q3 => ?_)
    refine rz_pure (pc' := 26) d_M_feed_25 rfl ?_
    refine rz_pure (pc' := 27) d_M_feed_26 rfl ?_
    refine rz_callVv (t := [.int a3]) d_M_feed_27 w_12_257 rfl rfl rfl q3 (fun Sq4 q4 => ?_)
    refine rz_pure (pc' := 31) d_M_feed_30 rfl ?_
    refine rz_pure (pc' := 33) d_M_feed_31 rfl ?_
    refine rz_callVv (t := [.int a4]) d_M_feed_33 w_12_257 rfl rfl rfl q4 (fun Sq5 q5 => ?_)
    refine rz_pure (pc' := 37) d_M_feed_36 rfl ?_
    refine rz_pure (pc' := 39) d_M_feed_37 rfl ?_
    refine rz_callVv (t := [.int a5]) d_M_feed_39 w_12_257 rfl rfl rfl q5 (fun Sq6 q6 => ?_)
    refine rz_pure (pc' := 43) d_M_feed_42 rfl ?_
    refine rz_getiv (v := Sq6.2 116 64) d_M_feed_43 f_12_254 rfl rfl rfl ?_
    exact rz_ireti d_M_feed_46 rfl rfl q6
  · skip
    refine rz_iconst (v := -1) d_M_feed_13 (by decide) ?_
    exact rz_ireti d_M_feed_14 rfl rfl (w.2 b1)
