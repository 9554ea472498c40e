/-! what each block of the code asks (printed by wpgen.py) -/
theorem d_M_wordNext_0 : decode (rm_code mM_wordNext) 0 = .ok (.aload_n 0, 1) := by decide +kernel
theorem d_M_wordNext_1 : decode (rm_code mM_wordNext) 1 = .ok (.invokevirtual 653, 3) := by decide +kernel
theorem d_M_wordNext_4 : decode (rm_code mM_wordNext) 4 = .ok (.istore_n 1, 1) := by decide +kernel
theorem d_M_wordNext_5 : decode (rm_code mM_wordNext) 5 = .ok (.iload_n 1, 1) := by decide +kernel
theorem d_M_wordNext_6 : decode (rm_code mM_wordNext) 6 = .ok (.aload_n 0, 1) := by decide +kernel
theorem d_M_wordNext_7 : decode (rm_code mM_wordNext) 7 = .ok (.invokevirtual 653, 3) := by decide +kernel
theorem d_M_wordNext_10 : decode (rm_code mM_wordNext) 10 = .ok (.bipush (8), 2) := by decide +kernel
theorem d_M_wordNext_12 : decode (rm_code mM_wordNext) 12 = .ok (.ishl, 1) := by decide +kernel
theorem d_M_wordNext_13 : decode (rm_code mM_wordNext) 13 = .ok (.ior, 1) := by decide +kernel
theorem d_M_wordNext_14 : decode (rm_code mM_wordNext) 14 = .ok (.ireturn, 1) := by decide +kernel
theorem p_M_wordNext_0 {S : rz_S} {K : Int32 → rz_S → Prop} (w : rz_ev mM_byteNext [.ref 116] S (rz_i (fun xq1 Sq1 => rz_ev mM_byteNext [.ref 116] Sq1 (rz_i (fun xq2 Sq2 => K (xq1 ||| (xq2 <<< ((8 : Int32) &&& 31))) Sq2))))) : rz mM_wordNext 0 [(0, .ref 116)] [] S (rz_i K) := by
  refine rz_pure (pc' := 1) d_M_wordNext_0 rfl ?_
  refine rz_callVi (t := []) d_M_wordNext_1 w_12_653 rfl rfl rfl w (fun xq1 Sq1 q1 => ?_)
  refine rz_pure (pc' := 5) (l' := [(1, .int xq1), (0, .ref 116)]) d_M_wordNext_4 rfl ?_
  refine rz_pure (pc' := 6) d_M_wordNext_5 rfl ?_
  refine rz_pure (pc' := 7) d_M_wordNext_6 rfl ?_
  refine rz_callVi (t := []) d_M_wordNext_7 w_12_653 rfl rfl rfl q1 (fun xq2 Sq2 q2 => ?_)
  refine rz_bipush (v := 8) d_M_wordNext_10 (by decide) ?_
  refine rz_ishl d_M_wordNext_12 ?_
  refine rz_ior d_M_wordNext_13 ?_
  exact rz_ireti d_M_wordNext_14 rfl rfl q2
theorem d_M_is_0 : decode (rm_code mM_is) 0 = .ok (.aload_n 0, 1) := by decide +kernel
theorem d_M_is_1 : decode (rm_code mM_is) 1 = .ok (.getfield 638, 3) := by decide +kernel
theorem d_M_is_4 : decode (rm_code mM_is) 4 = .ok (.iload_n 1, 1) := by decide +kernel
theorem d_M_is_5 : decode (rm_code mM_is) 5 = .ok (.iand, 1) := by decide +kernel
theorem d_M_is_6 : decode (rm_code mM_is) 6 = .ok (.ifCond .eq (7), 3) := by decide +kernel
theorem d_M_is_9 : decode (rm_code mM_is) 9 = .ok (.iconst 1, 1) := by decide +kernel
theorem d_M_is_10 : decode (rm_code mM_is) 10 = .ok (.goto (4), 3) := by decide +kernel
theorem d_M_is_13 : decode (rm_code mM_is) 13 = .ok (.iconst 0, 1) := by decide +kernel
theorem d_M_is_14 : decode (rm_code mM_is) 14 = .ok (.ireturn, 1) := by decide +kernel
theorem p_M_is_0 {S : rz_S} {K : Int32 → rz_S → Prop} {a1 : Int32} (w : (((S.2 116 79) &&& a1 = 0 → K 0 S) ∧ (¬ (S.2 116 79) &&& a1 = 0 → K 1 S))) : rz mM_is 0 [(0, .ref 116), (1, .int a1)] [] S (rz_i K) := by
  refine rz_pure (pc' := 1) d_M_is_0 rfl ?_
  refine rz_getiv (v := S.2 116 79) d_M_is_1 f_12_638 rfl rfl rfl ?_
  refine rz_pure (pc' := 5) d_M_is_4 rfl ?_
  refine rz_iand d_M_is_5 ?_
  refine rz_ifeq (tgt := 13) d_M_is_6 rfl (fun b1 => ?_) (fun b1 => ?_)
  · skip
    refine rz_iconst (v := 0) d_M_is_13 (by decide) ?_
    exact rz_ireti d_M_is_14 rfl (by decide) (w.1 b1)
  · skip
    refine rz_iconst (v := 1) d_M_is_9 (by decide) ?_
    refine rz_pure (pc' := 14) d_M_is_10 rfl ?_
    exact rz_ireti d_M_is_14 rfl (by decide) (w.2 b1)
theorem d_M_flag_0 : decode (rm_code mM_flag) 0 = .ok (.aload_n 0, 1) := by decide +kernel
theorem d_M_flag_1 : decode (rm_code mM_flag) 1 = .ok (.iload_n 2, 1) := by decide +kernel
theorem d_M_flag_2 : decode (rm_code mM_flag) 2 = .ok (.ifCond .eq (12), 3) := by decide +kernel
theorem d_M_flag_5 : decode (rm_code mM_flag) 5 = .ok (.aload_n 0, 1) := by decide +kernel
theorem d_M_flag_6 : decode (rm_code mM_flag) 6 = .ok (.getfield 638, 3) := by decide +kernel
theorem d_M_flag_9 : decode (rm_code mM_flag) 9 = .ok (.iload_n 1, 1) := by decide +kernel
theorem d_M_flag_10 : decode (rm_code mM_flag) 10 = .ok (.ior, 1) := by decide +kernel
theorem d_M_flag_11 : decode (rm_code mM_flag) 11 = .ok (.goto (11), 3) := by decide +kernel
theorem d_M_flag_14 : decode (rm_code mM_flag) 14 = .ok (.aload_n 0, 1) := by decide +kernel
theorem d_M_flag_15 : decode (rm_code mM_flag) 15 = .ok (.getfield 638, 3) := by decide +kernel
theorem d_M_flag_18 : decode (rm_code mM_flag) 18 = .ok (.iload_n 1, 1) := by decide +kernel
theorem d_M_flag_19 : decode (rm_code mM_flag) 19 = .ok (.iconst (-1), 1) := by decide +kernel
theorem d_M_flag_20 : decode (rm_code mM_flag) 20 = .ok (.ixor, 1) := by decide +kernel
theorem d_M_flag_21 : decode (rm_code mM_flag) 21 = .ok (.iand, 1) := by decide +kernel
theorem d_M_flag_22 : decode (rm_code mM_flag) 22 = .ok (.putfield 638, 3) := by decide +kernel
theorem d_M_flag_25 : decode (rm_code mM_flag) 25 = .ok (.return_, 1) := by decide +kernel
theorem p_M_flag_0 {S : rz_S} {K : rz_S → Prop} {a1 : Int32} {a2 : Int32} (w : ((a2 = 0 → K (rz_uI S 116 79 ((S.2 116 79) &&& (a1 ^^^ (-1))))) ∧ (¬ a2 = 0 → K (rz_uI S 116 79 ((S.2 116 79) ||| a1))))) : rz mM_flag 0 [(0, .ref 116), (1, .int a1), (2, .int a2)] [] S (rz_v K) := by
  refine rz_pure (pc' := 1) d_M_flag_0 rfl ?_
  refine rz_pure (pc' := 2) d_M_flag_1 rfl ?_
  refine rz_ifeq (tgt := 14) d_M_flag_2 rfl (fun b1 => ?_) (fun b1 => ?_)
  · skip
    refine rz_pure (pc' := 15) d_M_flag_14 rfl ?_
    refine rz_getiv (v := S.2 116 79) d_M_flag_15 f_12_638 rfl rfl rfl ?_
    refine rz_pure (pc' := 19) d_M_flag_18 rfl ?_
    refine rz_iconst (v := -1) d_M_flag_19 (by decide) ?_
    refine rz_ixor d_M_flag_20 ?_
    refine rz_iand d_M_flag_21 ?_
    refine rz_puti d_M_flag_22 f_12_638 rfl rfl rfl ?_
    exact rz_vretv d_M_flag_25 rfl (w.1 b1)
  · skip
    refine rz_pure (pc' := 6) d_M_flag_5 rfl ?_
    refine rz_getiv (v := S.2 116 79) d_M_flag_6 f_12_638 rfl rfl rfl ?_
    refine rz_pure (pc' := 10) d_M_flag_9 rfl ?_
    refine rz_ior d_M_flag_10 ?_
    refine rz_pure (pc' := 22) d_M_flag_11 rfl ?_
    refine rz_puti d_M_flag_22 f_12_638 rfl rfl rfl ?_
    exact rz_vretv d_M_flag_25 rfl (w.2 b1)
theorem d_M_marks_0 : decode (rm_code mM_marks) 0 = .ok (.aload_n 0, 1) := by decide +kernel
theorem d_M_marks_1 : decode (rm_code mM_marks) 1 = .ok (.iconst 2, 1) := by decide +kernel
theorem d_M_marks_2 : decode (rm_code mM_marks) 2 = .ok (.iload_n 1, 1) := by decide +kernel
theorem d_M_marks_3 : decode (rm_code mM_marks) 3 = .ok (.sipush (255), 3) := by decide +kernel
theorem d_M_marks_6 : decode (rm_code mM_marks) 6 = .ok (.iand, 1) := by decide +kernel
theorem d_M_marks_7 : decode (rm_code mM_marks) 7 = .ok (.ifCond .ne (7), 3) := by decide +kernel
theorem d_M_marks_10 : decode (rm_code mM_marks) 10 = .ok (.iconst 1, 1) := by decide +kernel
theorem d_M_marks_11 : decode (rm_code mM_marks) 11 = .ok (.goto (4), 3) := by decide +kernel
theorem d_M_marks_14 : decode (rm_code mM_marks) 14 = .ok (.iconst 0, 1) := by decide +kernel
theorem d_M_marks_15 : decode (rm_code mM_marks) 15 = .ok (.invokevirtual 656, 3) := by decide +kernel
theorem d_M_marks_18 : decode (rm_code mM_marks) 18 = .ok (.aload_n 0, 1) := by decide +kernel
theorem d_M_marks_19 : decode (rm_code mM_marks) 19 = .ok (.sipush (128), 3) := by decide +kernel
theorem d_M_marks_22 : decode (rm_code mM_marks) 22 = .ok (.iload_n 1, 1) := by decide +kernel
theorem d_M_marks_23 : decode (rm_code mM_marks) 23 = .ok (.sipush (128), 3) := by decide +kernel
theorem d_M_marks_26 : decode (rm_code mM_marks) 26 = .ok (.iand, 1) := by decide +kernel
theorem d_M_marks_27 : decode (rm_code mM_marks) 27 = .ok (.ifCond .eq (7), 3) := by decide +kernel
theorem d_M_marks_30 : decode (rm_code mM_marks) 30 = .ok (.iconst 1, 1) := by decide +kernel
theorem d_M_marks_31 : decode (rm_code mM_marks) 31 = .ok (.goto (4), 3) := by decide +kernel
theorem d_M_marks_34 : decode (rm_code mM_marks) 34 = .ok (.iconst 0, 1) := by decide +kernel
theorem d_M_marks_35 : decode (rm_code mM_marks) 35 = .ok (.invokevirtual 656, 3) := by decide +kernel
theorem d_M_marks_38 : decode (rm_code mM_marks) 38 = .ok (.iload_n 1, 1) := by decide +kernel
theorem d_M_marks_39 : decode (rm_code mM_marks) 39 = .ok (.sipush (255), 3) := by decide +kernel
theorem d_M_marks_42 : decode (rm_code mM_marks) 42 = .ok (.iand, 1) := by decide +kernel
theorem d_M_marks_43 : decode (rm_code mM_marks) 43 = .ok (.ireturn, 1) := by decide +kernel
theorem p_M_marks_0 {S : rz_S} {K : Int32 → rz_S → Prop} {a1 : Int32} (w : ((a1 &&& 255 = 0 → rz mM_marks 15 [(0, .ref 116), (1, .int a1)] [.int 1, .int 2, .ref 116] S (rz_i K)) ∧ (¬ a1 &&& 255 = 0 → rz mM_marks 15 [(0, .ref 116), (1, .int a1)] [.int 0, .int 2, .ref 116] S (rz_i K)))) : rz mM_marks 0 [(0, .ref 116), (1, .int a1)] [] S (rz_i K) := by
  refine rz_pure (pc' := 1) d_M_marks_0 rfl ?_
  refine rz_iconst (v := 2) d_M_marks_1 (by decide) ?_
  refine rz_pure (pc' := 3) d_M_marks_2 rfl ?_
  refine rz_sipush (v := 255) d_M_marks_3 (by decide) ?_
  refine rz_iand d_M_marks_6 ?_
  refine rz_ifne (tgt := 14) d_M_marks_7 rfl (fun b1 => ?_) (fun b1 => ?_)
  · skip
    refine rz_iconst (v := 0) d_M_marks_14 (by decide) ?_
    exact rz_pick (ks := [0, 1]) (l := [(0, .ref 116), (1, .int a1)]) rfl rfl (by decide) rfl (w.2 b1)
  · skip
    refine rz_iconst (v := 1) d_M_marks_10 (by decide) ?_
    refine rz_pure (pc' := 15) d_M_marks_11 rfl ?_
    exact rz_pick (ks := [0, 1]) (l := [(0, .ref 116), (1, .int a1)]) rfl rfl (by decide) rfl (w.1 b1)
theorem p_M_marks_15 {S : rz_S} {K : Int32 → rz_S → Prop} {a1 : Int32} {s0 : Int32} {s1 : Int32} (w : rz_ev mM_flag [.ref 116, .int s1, .int s0] S (rz_v (fun Sq1 => ((a1 &&& 128 = 0 → rz mM_marks 35 [(1, .int a1)] [.int 0, .int 128, .ref 116] Sq1 (rz_i K)) ∧ (¬ a1 &&& 128 = 0 → rz mM_marks 35 [(1, .int a1)] [.int 1, .int 128, .ref 116] Sq1 (rz_i K)))))) : rz mM_marks 15 [(0, .ref 116), (1, .int a1)] [.int s0, .int s1, .ref 116] S (rz_i K) := by
  refine rz_callVv (t := [.int s0, .int s1]) d_M_marks_15 w_12_656 rfl rfl rfl w (fun Sq1 q1 => ?_)
  refine rz_pure (pc' := 19) d_M_marks_18 rfl ?_
  refine rz_sipush (v := 128) d_M_marks_19 (by decide) ?_
  refine rz_pure (pc' := 23) d_M_marks_22 rfl ?_
  refine rz_sipush (v := 128) d_M_marks_23 (by decide) ?_
  refine rz_iand d_M_marks_26 ?_
  refine rz_ifeq (tgt := 34) d_M_marks_27 rfl (fun b2 => ?_) (fun b2 => ?_)
  · skip
    refine rz_iconst (v := 0) d_M_marks_34 (by decide) ?_
    exact rz_pick (ks := [1]) (l := [(1, .int a1)]) rfl rfl (by decide) rfl (q1.1 b2)
  · skip
    refine rz_iconst (v := 1) d_M_marks_30 (by decide) ?_
    refine rz_pure (pc' := 35) d_M_marks_31 rfl ?_
    exact rz_pick (ks := [1]) (l := [(1, .int a1)]) rfl rfl (by decide) rfl (q1.2 b2)
theorem p_M_marks_35 {S : rz_S} {K : Int32 → rz_S → Prop} {a1 : Int32} {s0 : Int32} {s1 : Int32} (w : rz_ev mM_flag [.ref 116, .int s1, .int s0] S (rz_v (fun Sq1 => K (a1 &&& 255) Sq1))) : rz mM_marks 35 [(1, .int a1)] [.int s0, .int s1, .ref 116] S (rz_i K) := by
  refine rz_callVv (t := [.int s0, .int s1]) d_M_marks_35 w_12_656 rfl rfl rfl w (fun Sq1 q1 => ?_)
  refine rz_pure (pc' := 39) d_M_marks_38 rfl ?_
  refine rz_sipush (v := 255) d_M_marks_39 (by decide) ?_
  refine rz_iand d_M_marks_42 ?_
  exact rz_ireti d_M_marks_43 rfl rfl q1
theorem d_M_push_0 : decode (rm_code mM_push) 0 = .ok (.aload_n 0, 1) := by decide +kernel
theorem d_M_push_1 : decode (rm_code mM_push) 1 = .ok (.sipush (256), 3) := by decide +kernel
theorem d_M_push_4 : decode (rm_code mM_push) 4 = .ok (.aload_n 0, 1) := by decide +kernel
theorem d_M_push_5 : decode (rm_code mM_push) 5 = .ok (.getfield 635, 3) := by decide +kernel
theorem d_M_push_8 : decode (rm_code mM_push) 8 = .ok (.iadd, 1) := by decide +kernel
theorem d_M_push_9 : decode (rm_code mM_push) 9 = .ok (.iload_n 1, 1) := by decide +kernel
theorem d_M_push_10 : decode (rm_code mM_push) 10 = .ok (.invokevirtual 617, 3) := by decide +kernel
theorem d_M_push_13 : decode (rm_code mM_push) 13 = .ok (.aload_n 0, 1) := by decide +kernel
theorem d_M_push_14 : decode (rm_code mM_push) 14 = .ok (.aload_n 0, 1) := by decide +kernel
theorem d_M_push_15 : decode (rm_code mM_push) 15 = .ok (.getfield 635, 3) := by decide +kernel
theorem d_M_push_18 : decode (rm_code mM_push) 18 = .ok (.iconst 1, 1) := by decide +kernel
theorem d_M_push_19 : decode (rm_code mM_push) 19 = .ok (.isub, 1) := by decide +kernel
theorem d_M_push_20 : decode (rm_code mM_push) 20 = .ok (.sipush (255), 3) := by decide +kernel
theorem d_M_push_23 : decode (rm_code mM_push) 23 = .ok (.iand, 1) := by decide +kernel
theorem d_M_push_24 : decode (rm_code mM_push) 24 = .ok (.putfield 635, 3) := by decide +kernel
theorem d_M_push_27 : decode (rm_code mM_push) 27 = .ok (.return_, 1) := by decide +kernel
theorem p_M_push_0 {S : rz_S} {K : rz_S → Prop} {a1 : Int32} (w : rz_ev mM_put [.ref 116, .int (256 + (S.2 116 78)), .int a1] S (rz_v (fun Sq1 => K (rz_uI Sq1 116 78 (((Sq1.2 116 78) - 1) &&& 255))))) : rz mM_push 0 [(0, .ref 116), (1, .int a1)] [] S (rz_v K) := by
  refine rz_pure (pc' := 1) d_M_push_0 rfl ?_
  refine rz_sipush (v := 256) d_M_push_1 (by decide) ?_
  refine rz_pure (pc' := 5) d_M_push_4 rfl ?_
  refine rz_getiv (v := S.2 116 78) d_M_push_5 f_12_635 rfl rfl rfl ?_
  refine rz_iadd d_M_push_8 ?_
  refine rz_pure (pc' := 10) d_M_push_9 rfl ?_
  refine rz_callVv (t := [.int a1, .int (256 + (S.2 116 78))]) d_M_push_10 w_12_617 rfl rfl rfl w (fun Sq1 q1 => ?_)
  refine rz_pure (pc' := 14) d_M_push_13 rfl ?_
  refine rz_pure (pc' := 15) d_M_push_14 rfl ?_
  refine rz_getiv (v := Sq1.2 116 78) d_M_push_15 f_12_635 rfl rfl rfl ?_
  refine rz_iconst (v := 1) d_M_push_18 (by decide) ?_
  refine rz_isub d_M_push_19 ?_
  refine rz_sipush (v := 255) d_M_push_20 (by decide) ?_
  refine rz_iand d_M_push_23 ?_
  refine rz_puti d_M_push_24 f_12_635 rfl rfl rfl ?_
  exact rz_vretv d_M_push_27 rfl q1
theorem d_M_pull_0 : decode (rm_code mM_pull) 0 = .ok (.aload_n 0, 1) := by decide +kernel
theorem d_M_pull_1 : decode (rm_code mM_pull) 1 = .ok (.aload_n 0, 1) := by decide +kernel
theorem d_M_pull_2 : decode (rm_code mM_pull) 2 = .ok (.getfield 635, 3) := by decide +kernel
theorem d_M_pull_5 : decode (rm_code mM_pull) 5 = .ok (.iconst 1, 1) := by decide +kernel
theorem d_M_pull_6 : decode (rm_code mM_pull) 6 = .ok (.iadd, 1) := by decide +kernel
theorem d_M_pull_7 : decode (rm_code mM_pull) 7 = .ok (.sipush (255), 3) := by decide +kernel
theorem d_M_pull_10 : decode (rm_code mM_pull) 10 = .ok (.iand, 1) := by decide +kernel
theorem d_M_pull_11 : decode (rm_code mM_pull) 11 = .ok (.putfield 635, 3) := by decide +kernel
theorem d_M_pull_14 : decode (rm_code mM_pull) 14 = .ok (.aload_n 0, 1) := by decide +kernel
theorem d_M_pull_15 : decode (rm_code mM_pull) 15 = .ok (.sipush (256), 3) := by decide +kernel
theorem d_M_pull_18 : decode (rm_code mM_pull) 18 = .ok (.aload_n 0, 1) := by decide +kernel
theorem d_M_pull_19 : decode (rm_code mM_pull) 19 = .ok (.getfield 635, 3) := by decide +kernel
theorem d_M_pull_22 : decode (rm_code mM_pull) 22 = .ok (.iadd, 1) := by decide +kernel
theorem d_M_pull_23 : decode (rm_code mM_pull) 23 = .ok (.invokevirtual 620, 3) := by decide +kernel
theorem d_M_pull_26 : decode (rm_code mM_pull) 26 = .ok (.ireturn, 1) := by decide +kernel
theorem p_M_pull_0 {S : rz_S} {K : Int32 → rz_S → Prop} (w : rz_ev mM_get [.ref 116, .int (256 + (((S.2 116 78) + 1) &&& 255))] (rz_uI S 116 78 (((S.2 116 78) + 1) &&& 255)) (rz_i (fun xq1 Sq1 => K xq1 Sq1))) : rz mM_pull 0 [(0, .ref 116)] [] S (rz_i K) := by
  refine rz_pure (pc' := 1) d_M_pull_0 rfl ?_
  refine rz_pure (pc' := 2) d_M_pull_1 rfl ?_
  refine rz_getiv (v := S.2 116 78) d_M_pull_2 f_12_635 rfl rfl rfl ?_
  refine rz_iconst (v := 1) d_M_pull_5 (by decide) ?_
  refine rz_iadd d_M_pull_6 ?_
  refine rz_sipush (v := 255) d_M_pull_7 (by decide) ?_
  refine rz_iand d_M_pull_10 ?_
  refine rz_puti d_M_pull_11 f_12_635 rfl rfl rfl ?_
  refine rz_pure (pc' := 15) d_M_pull_14 rfl ?_
  refine rz_sipush (v := 256) d_M_pull_15 (by decide) ?_
  refine rz_pure (pc' := 19) d_M_pull_18 rfl ?_
  refine rz_getiv (v := ((S.2 116 78) + 1) &&& 255) d_M_pull_19 f_12_635 rfl rfl rz_uI_s ?_
  refine rz_iadd d_M_pull_22 ?_
  refine rz_callVi (t := [.int (256 + (((S.2 116 78) + 1) &&& 255))]) d_M_pull_23 w_12_620 rfl rfl rfl w (fun xq1 Sq1 q1 => ?_)
  exact rz_ireti d_M_pull_26 rfl rfl q1
theorem d_M_address_0 : decode (rm_code mM_address) 0 = .ok (.aload_n 0, 1) := by decide +kernel
theorem d_M_address_1 : decode (rm_code mM_address) 1 = .ok (.iconst 0, 1) := by decide +kernel
theorem d_M_address_2 : decode (rm_code mM_address) 2 = .ok (.putfield 660, 3) := by decide +kernel
theorem d_M_address_5 : decode (rm_code mM_address) 5 = .ok (.iload_n 1, 1) := by decide +kernel
theorem d_M_address_6 : decode (rm_code mM_address) 6 = .ok (.tableswitch (214) (0) (7) #[(46), (67), (72), (86), (100), (105), (142), (179)], 46) := by decide +kernel
theorem d_M_address_52 : decode (rm_code mM_address) 52 = .ok (.aload_n 0, 1) := by decide +kernel
theorem d_M_address_53 : decode (rm_code mM_address) 53 = .ok (.getfield 644, 3) := by decide +kernel
theorem d_M_address_56 : decode (rm_code mM_address) 56 = .ok (.istore_n 2, 1) := by decide +kernel
theorem d_M_address_57 : decode (rm_code mM_address) 57 = .ok (.aload_n 0, 1) := by decide +kernel
theorem d_M_address_58 : decode (rm_code mM_address) 58 = .ok (.aload_n 0, 1) := by decide +kernel
theorem d_M_address_59 : decode (rm_code mM_address) 59 = .ok (.getfield 644, 3) := by decide +kernel
theorem d_M_address_62 : decode (rm_code mM_address) 62 = .ok (.iconst 1, 1) := by decide +kernel
theorem d_M_address_63 : decode (rm_code mM_address) 63 = .ok (.iadd, 1) := by decide +kernel
theorem d_M_address_64 : decode (rm_code mM_address) 64 = .ok (.sipush (2047), 3) := by decide +kernel
theorem d_M_address_67 : decode (rm_code mM_address) 67 = .ok (.iand, 1) := by decide +kernel
theorem d_M_address_68 : decode (rm_code mM_address) 68 = .ok (.putfield 644, 3) := by decide +kernel
theorem d_M_address_71 : decode (rm_code mM_address) 71 = .ok (.iload_n 2, 1) := by decide +kernel
theorem d_M_address_72 : decode (rm_code mM_address) 72 = .ok (.ireturn, 1) := by decide +kernel
theorem d_M_address_73 : decode (rm_code mM_address) 73 = .ok (.aload_n 0, 1) := by decide +kernel
theorem d_M_address_74 : decode (rm_code mM_address) 74 = .ok (.invokevirtual 653, 3) := by decide +kernel
theorem d_M_address_77 : decode (rm_code mM_address) 77 = .ok (.ireturn, 1) := by decide +kernel
theorem d_M_address_78 : decode (rm_code mM_address) 78 = .ok (.aload_n 0, 1) := by decide +kernel
theorem d_M_address_79 : decode (rm_code mM_address) 79 = .ok (.invokevirtual 653, 3) := by decide +kernel
theorem d_M_address_82 : decode (rm_code mM_address) 82 = .ok (.aload_n 0, 1) := by decide +kernel
theorem d_M_address_83 : decode (rm_code mM_address) 83 = .ok (.getfield 629, 3) := by decide +kernel
theorem d_M_address_86 : decode (rm_code mM_address) 86 = .ok (.iadd, 1) := by decide +kernel
theorem d_M_address_87 : decode (rm_code mM_address) 87 = .ok (.sipush (255), 3) := by decide +kernel
theorem d_M_address_90 : decode (rm_code mM_address) 90 = .ok (.iand, 1) := by decide +kernel
theorem d_M_address_91 : decode (rm_code mM_address) 91 = .ok (.ireturn, 1) := by decide +kernel
theorem d_M_address_92 : decode (rm_code mM_address) 92 = .ok (.aload_n 0, 1) := by decide +kernel
theorem d_M_address_93 : decode (rm_code mM_address) 93 = .ok (.invokevirtual 653, 3) := by decide +kernel
theorem d_M_address_96 : decode (rm_code mM_address) 96 = .ok (.aload_n 0, 1) := by decide +kernel
theorem d_M_address_97 : decode (rm_code mM_address) 97 = .ok (.getfield 632, 3) := by decide +kernel
theorem d_M_address_100 : decode (rm_code mM_address) 100 = .ok (.iadd, 1) := by decide +kernel
theorem d_M_address_101 : decode (rm_code mM_address) 101 = .ok (.sipush (255), 3) := by decide +kernel
theorem d_M_address_104 : decode (rm_code mM_address) 104 = .ok (.iand, 1) := by decide +kernel
theorem d_M_address_105 : decode (rm_code mM_address) 105 = .ok (.ireturn, 1) := by decide +kernel
theorem d_M_address_106 : decode (rm_code mM_address) 106 = .ok (.aload_n 0, 1) := by decide +kernel
theorem d_M_address_107 : decode (rm_code mM_address) 107 = .ok (.invokevirtual 663, 3) := by decide +kernel
theorem d_M_address_110 : decode (rm_code mM_address) 110 = .ok (.ireturn, 1) := by decide +kernel
theorem d_M_address_111 : decode (rm_code mM_address) 111 = .ok (.aload_n 0, 1) := by decide +kernel
theorem d_M_address_112 : decode (rm_code mM_address) 112 = .ok (.invokevirtual 663, 3) := by decide +kernel
theorem d_M_address_115 : decode (rm_code mM_address) 115 = .ok (.istore_n 2, 1) := by decide +kernel
theorem d_M_address_116 : decode (rm_code mM_address) 116 = .ok (.aload_n 0, 1) := by decide +kernel
theorem d_M_address_117 : decode (rm_code mM_address) 117 = .ok (.iload_n 2, 1) := by decide +kernel
theorem d_M_address_118 : decode (rm_code mM_address) 118 = .ok (.sipush (255), 3) := by decide +kernel
theorem d_M_address_121 : decode (rm_code mM_address) 121 = .ok (.iand, 1) := by decide +kernel
theorem d_M_address_122 : decode (rm_code mM_address) 122 = .ok (.aload_n 0, 1) := by decide +kernel
theorem d_M_address_123 : decode (rm_code mM_address) 123 = .ok (.getfield 629, 3) := by decide +kernel
theorem d_M_address_126 : decode (rm_code mM_address) 126 = .ok (.iadd, 1) := by decide +kernel
theorem d_M_address_127 : decode (rm_code mM_address) 127 = .ok (.sipush (255), 3) := by decide +kernel
theorem d_M_address_130 : decode (rm_code mM_address) 130 = .ok (.if_icmp .le (7), 3) := by decide +kernel
theorem d_M_address_133 : decode (rm_code mM_address) 133 = .ok (.iconst 1, 1) := by decide +kernel
theorem d_M_address_134 : decode (rm_code mM_address) 134 = .ok (.goto (4), 3) := by decide +kernel
theorem d_M_address_137 : decode (rm_code mM_address) 137 = .ok (.iconst 0, 1) := by decide +kernel
theorem d_M_address_138 : decode (rm_code mM_address) 138 = .ok (.putfield 660, 3) := by decide +kernel
theorem d_M_address_141 : decode (rm_code mM_address) 141 = .ok (.iload_n 2, 1) := by decide +kernel
theorem d_M_address_142 : decode (rm_code mM_address) 142 = .ok (.aload_n 0, 1) := by decide +kernel
theorem d_M_address_143 : decode (rm_code mM_address) 143 = .ok (.getfield 629, 3) := by decide +kernel
theorem d_M_address_146 : decode (rm_code mM_address) 146 = .ok (.iadd, 1) := by decide +kernel
theorem d_M_address_147 : decode (rm_code mM_address) 147 = .ok (.ireturn, 1) := by decide +kernel
theorem d_M_address_148 : decode (rm_code mM_address) 148 = .ok (.aload_n 0, 1) := by decide +kernel
theorem d_M_address_149 : decode (rm_code mM_address) 149 = .ok (.invokevirtual 663, 3) := by decide +kernel
theorem d_M_address_152 : decode (rm_code mM_address) 152 = .ok (.istore_n 2, 1) := by decide +kernel
theorem d_M_address_153 : decode (rm_code mM_address) 153 = .ok (.aload_n 0, 1) := by decide +kernel
theorem d_M_address_154 : decode (rm_code mM_address) 154 = .ok (.iload_n 2, 1) := by decide +kernel
theorem d_M_address_155 : decode (rm_code mM_address) 155 = .ok (.sipush (255), 3) := by decide +kernel
theorem d_M_address_158 : decode (rm_code mM_address) 158 = .ok (.iand, 1) := by decide +kernel
theorem d_M_address_159 : decode (rm_code mM_address) 159 = .ok (.aload_n 0, 1) := by decide +kernel
theorem d_M_address_160 : decode (rm_code mM_address) 160 = .ok (.getfield 632, 3) := by decide +kernel
theorem d_M_address_163 : decode (rm_code mM_address) 163 = .ok (.iadd, 1) := by decide +kernel
theorem d_M_address_164 : decode (rm_code mM_address) 164 = .ok (.sipush (255), 3) := by decide +kernel
theorem d_M_address_167 : decode (rm_code mM_address) 167 = .ok (.if_icmp .le (7), 3) := by decide +kernel
theorem d_M_address_170 : decode (rm_code mM_address) 170 = .ok (.iconst 1, 1) := by decide +kernel
theorem d_M_address_171 : decode (rm_code mM_address) 171 = .ok (.goto (4), 3) := by decide +kernel
theorem d_M_address_174 : decode (rm_code mM_address) 174 = .ok (.iconst 0, 1) := by decide +kernel
theorem d_M_address_175 : decode (rm_code mM_address) 175 = .ok (.putfield 660, 3) := by decide +kernel
theorem d_M_address_178 : decode (rm_code mM_address) 178 = .ok (.iload_n 2, 1) := by decide +kernel
theorem d_M_address_179 : decode (rm_code mM_address) 179 = .ok (.aload_n 0, 1) := by decide +kernel
theorem d_M_address_180 : decode (rm_code mM_address) 180 = .ok (.getfield 632, 3) := by decide +kernel
theorem d_M_address_183 : decode (rm_code mM_address) 183 = .ok (.iadd, 1) := by decide +kernel
theorem d_M_address_184 : decode (rm_code mM_address) 184 = .ok (.ireturn, 1) := by decide +kernel
theorem d_M_address_185 : decode (rm_code mM_address) 185 = .ok (.aload_n 0, 1) := by decide +kernel
theorem d_M_address_186 : decode (rm_code mM_address) 186 = .ok (.invokevirtual 653, 3) := by decide +kernel
theorem d_M_address_189 : decode (rm_code mM_address) 189 = .ok (.aload_n 0, 1) := by decide +kernel
theorem d_M_address_190 : decode (rm_code mM_address) 190 = .ok (.getfield 629, 3) := by decide +kernel
theorem d_M_address_193 : decode (rm_code mM_address) 193 = .ok (.iadd, 1) := by decide +kernel
theorem d_M_address_194 : decode (rm_code mM_address) 194 = .ok (.sipush (255), 3) := by decide +kernel
theorem d_M_address_197 : decode (rm_code mM_address) 197 = .ok (.iand, 1) := by decide +kernel
theorem d_M_address_198 : decode (rm_code mM_address) 198 = .ok (.istore_n 3, 1) := by decide +kernel
theorem d_M_address_199 : decode (rm_code mM_address) 199 = .ok (.aload_n 0, 1) := by decide +kernel
theorem d_M_address_200 : decode (rm_code mM_address) 200 = .ok (.iload_n 3, 1) := by decide +kernel
theorem d_M_address_201 : decode (rm_code mM_address) 201 = .ok (.invokevirtual 620, 3) := by decide +kernel
theorem d_M_address_204 : decode (rm_code mM_address) 204 = .ok (.aload_n 0, 1) := by decide +kernel
theorem d_M_address_205 : decode (rm_code mM_address) 205 = .ok (.iload_n 3, 1) := by decide +kernel
theorem d_M_address_206 : decode (rm_code mM_address) 206 = .ok (.iconst 1, 1) := by decide +kernel
theorem d_M_address_207 : decode (rm_code mM_address) 207 = .ok (.iadd, 1) := by decide +kernel
theorem d_M_address_208 : decode (rm_code mM_address) 208 = .ok (.sipush (255), 3) := by decide +kernel
theorem d_M_address_211 : decode (rm_code mM_address) 211 = .ok (.iand, 1) := by decide +kernel
theorem d_M_address_212 : decode (rm_code mM_address) 212 = .ok (.invokevirtual 620, 3) := by decide +kernel
theorem d_M_address_215 : decode (rm_code mM_address) 215 = .ok (.bipush (8), 2) := by decide +kernel
theorem d_M_address_217 : decode (rm_code mM_address) 217 = .ok (.ishl, 1) := by decide +kernel
theorem d_M_address_218 : decode (rm_code mM_address) 218 = .ok (.ior, 1) := by decide +kernel
theorem d_M_address_219 : decode (rm_code mM_address) 219 = .ok (.ireturn, 1) := by decide +kernel
theorem d_M_address_220 : decode (rm_code mM_address) 220 = .ok (.aload_n 0, 1) := by decide +kernel
theorem d_M_address_221 : decode (rm_code mM_address) 221 = .ok (.invokevirtual 653, 3) := by decide +kernel
theorem d_M_address_224 : decode (rm_code mM_address) 224 = .ok (.istore_n 3, 1) := by decide +kernel
theorem d_M_address_225 : decode (rm_code mM_address) 225 = .ok (.aload_n 0, 1) := by decide +kernel
theorem d_M_address_226 : decode (rm_code mM_address) 226 = .ok (.iload_n 3, 1) := by decide +kernel
theorem d_M_address_227 : decode (rm_code mM_address) 227 = .ok (.invokevirtual 620, 3) := by decide +kernel
theorem d_M_address_230 : decode (rm_code mM_address) 230 = .ok (.aload_n 0, 1) := by decide +kernel
theorem d_M_address_231 : decode (rm_code mM_address) 231 = .ok (.iload_n 3, 1) := by decide +kernel
theorem d_M_address_232 : decode (rm_code mM_address) 232 = .ok (.iconst 1, 1) := by decide +kernel
theorem d_M_address_233 : decode (rm_code mM_address) 233 = .ok (.iadd, 1) := by decide +kernel
theorem d_M_address_234 : decode (rm_code mM_address) 234 = .ok (.sipush (255), 3) := by decide +kernel
theorem d_M_address_237 : decode (rm_code mM_address) 237 = .ok (.iand, 1) := by decide +kernel
theorem d_M_address_238 : decode (rm_code mM_address) 238 = .ok (.invokevirtual 620, 3) := by decide +kernel
theorem d_M_address_241 : decode (rm_code mM_address) 241 = .ok (.bipush (8), 2) := by decide +kernel
theorem d_M_address_243 : decode (rm_code mM_address) 243 = .ok (.ishl, 1) := by decide +kernel
theorem d_M_address_244 : decode (rm_code mM_address) 244 = .ok (.ior, 1) := by decide +kernel
theorem d_M_address_245 : decode (rm_code mM_address) 245 = .ok (.istore_n 2, 1) := by decide +kernel
theorem d_M_address_246 : decode (rm_code mM_address) 246 = .ok (.aload_n 0, 1) := by decide +kernel
theorem d_M_address_247 : decode (rm_code mM_address) 247 = .ok (.iload_n 2, 1) := by decide +kernel
theorem d_M_address_248 : decode (rm_code mM_address) 248 = .ok (.sipush (255), 3) := by decide +kernel
theorem d_M_address_251 : decode (rm_code mM_address) 251 = .ok (.iand, 1) := by decide +kernel
theorem d_M_address_252 : decode (rm_code mM_address) 252 = .ok (.aload_n 0, 1) := by decide +kernel
theorem d_M_address_253 : decode (rm_code mM_address) 253 = .ok (.getfield 632, 3) := by decide +kernel
theorem d_M_address_256 : decode (rm_code mM_address) 256 = .ok (.iadd, 1) := by decide +kernel
theorem d_M_address_257 : decode (rm_code mM_address) 257 = .ok (.sipush (255), 3) := by decide +kernel
theorem d_M_address_260 : decode (rm_code mM_address) 260 = .ok (.if_icmp .le (7), 3) := by decide +kernel
theorem d_M_address_263 : decode (rm_code mM_address) 263 = .ok (.iconst 1, 1) := by decide +kernel
theorem d_M_address_264 : decode (rm_code mM_address) 264 = .ok (.goto (4), 3) := by decide +kernel
theorem d_M_address_267 : decode (rm_code mM_address) 267 = .ok (.iconst 0, 1) := by decide +kernel
theorem d_M_address_268 : decode (rm_code mM_address) 268 = .ok (.putfield 660, 3) := by decide +kernel
theorem d_M_address_271 : decode (rm_code mM_address) 271 = .ok (.iload_n 2, 1) := by decide +kernel
theorem d_M_address_272 : decode (rm_code mM_address) 272 = .ok (.aload_n 0, 1) := by decide +kernel
theorem d_M_address_273 : decode (rm_code mM_address) 273 = .ok (.getfield 632, 3) := by decide +kernel
theorem d_M_address_276 : decode (rm_code mM_address) 276 = .ok (.iadd, 1) := by decide +kernel
theorem d_M_address_277 : decode (rm_code mM_address) 277 = .ok (.ireturn, 1) := by decide +kernel
theorem p_M_address_0 {S : rz_S} {K : Int32 → rz_S → Prop} {a1 : Int32} (w : ((a1.toInt < 0 ∨ 7 < a1.toInt → rz_ev mM_byteNext [.ref 116] (rz_uI S 116 83 0) (rz_i (fun xq1 Sq1 => rz_ev mM_get [.ref 116, .int xq1] Sq1 (rz_i (fun xq2 Sq2 => rz_ev mM_get [.ref 116, .int ((xq1 + 1) &&& 255)] Sq2 (rz_i (fun xq3 Sq3 => ((((xq2 ||| (xq3 <<< ((8 : Int32) &&& 31))) &&& 255) + (Sq3.2 116 77) ≤ 255 → K ((xq2 ||| (xq3 <<< ((8 : Int32) &&& 31))) + (Sq3.2 116 77)) (rz_uI Sq3 116 83 0)) ∧ (¬ ((xq2 ||| (xq3 <<< ((8 : Int32) &&& 31))) &&& 255) + (Sq3.2 116 77) ≤ 255 → K ((xq2 ||| (xq3 <<< ((8 : Int32) &&& 31))) + (Sq3.2 116 77)) (rz_uI Sq3 116 83 1)))))))))) ∧ (a1 = 0 → K (S.2 116 80) (rz_uI (rz_uI S 116 83 0) 116 80 (((S.2 116 80) + 1) &&& 2047))) ∧ (a1 = 1 → rz_ev mM_byteNext [.ref 116] (rz_uI S 116 83 0) (rz_i (fun xq5 Sq5 => K xq5 Sq5))) ∧ (a1 = 2 → rz_ev mM_byteNext [.ref 116] (rz_uI S 116 83 0) (rz_i (fun xq6 Sq6 => K ((xq6 + (Sq6.2 116 76)) &&& 255) Sq6))) ∧ (a1 = 3 → rz_ev mM_byteNext [.ref 116] (rz_uI S 116 83 0) (rz_i (fun xq7 Sq7 => K ((xq7 + (Sq7.2 116 77)) &&& 255) Sq7))) ∧ (a1 = 4 → rz_ev mM_wordNext [.ref 116] (rz_uI S 116 83 0) (rz_i (fun xq8 Sq8 => K xq8 Sq8))) ∧ (a1 = 5 → rz_ev mM_wordNext [.ref 116] (rz_uI S 116 83 0) (rz_i (fun xq9 Sq9 => (((xq9 &&& 255) + (Sq9.2 116 76) ≤ 255 → K (xq9 + (Sq9.2 116 76)) (rz_uI Sq9 116 83 0)) ∧ (¬ (xq9 &&& 255) + (Sq9.2 116 76) ≤ 255 → K (xq9 + (Sq9.2 116 76)) (rz_uI Sq9 116 83 1)))))) ∧ (a1 = 6 → rz_ev mM_wordNext [.ref 116] (rz_uI S 116 83 0) (rz_i (fun xq11 Sq11 => (((xq11 &&& 255) + (Sq11.2 116 77) ≤ 255 → K (xq11 + (Sq11.2 116 77)) (rz_uI Sq11 116 83 0)) ∧ (¬ (xq11 &&& 255) + (Sq11.2 116 77) ≤ 255 → K (xq11 + (Sq11.2 116 77)) (rz_uI Sq11 116 83 1)))))) ∧ (a1 = 7 → rz_ev mM_byteNext [.ref 116] (rz_uI S 116 83 0) (rz_i (fun xq13 Sq13 => rz_ev mM_get [.ref 116, .int ((xq13 + (Sq13.2 116 76)) &&& 255)] Sq13 (rz_i (fun xq14 Sq14 => rz_ev mM_get [.ref 116, .int ((((xq13 + (Sq13.2 116 76)) &&& 255) + 1) &&& 255)] Sq14 (rz_i (fun xq15 Sq15 => K (xq14 ||| (xq15 <<< ((8 : Int32) &&& 31))) Sq15))))))))) : rz mM_address 0 [(0, .ref 116), (1, .int a1)] [] S (rz_i K) := by
  refine rz_pure (pc' := 1) d_M_address_0 rfl ?_
  refine rz_iconst (v := 0) d_M_address_1 (by decide) ?_
  refine rz_puti d_M_address_2 f_12_660 rfl rfl (by decide) ?_
  refine rz_pure (pc' := 6) d_M_address_5 rfl ?_
  refine rz_tsw (n := 8) (lo := 0) (tgt := 220) d_M_address_6 rfl rfl (fun b0 => ?_) (fun j hj hx => ?_)
  · skip
    refine rz_pure (pc' := 221) d_M_address_220 rfl ?_
    refine rz_callVi (t := []) d_M_address_221 w_12_653 rfl rfl rfl (w.1 b0) (fun xq1 Sq1 q1 => ?_)
    refine rz_pure (pc' := 225) (l' := [(3, .int xq1), (0, .ref 116), (1, .int a1)]) d_M_address_224 rfl ?_
    refine rz_pure (pc' := 226) d_M_address_225 rfl ?_
    refine rz_pure (pc' := 227) d_M_address_226 rfl ?_
    refine rz_callVi (t := [.int xq1]) d_M_address_227 w_12_620 rfl rfl rfl q1 (fun xq2 Sq2 q2 => ?_)
    refine rz_pure (pc' := 231) d_M_address_230 rfl ?_
    refine rz_pure (pc' := 232) d_M_address_231 rfl ?_
    refine rz_iconst (v := 1) d_M_address_232 (by decide) ?_
    refine rz_iadd d_M_address_233 ?_
    refine rz_sipush (v := 255) d_M_address_234 (by decide) ?_
    refine rz_iand d_M_address_237 ?_
    refine rz_callVi (t := [.int ((xq1 + 1) &&& 255)]) d_M_address_238 w_12_620 rfl rfl rfl q2 (fun xq3 Sq3 q3 => ?_)
    refine rz_bipush (v := 8) d_M_address_241 (by decide) ?_
    refine rz_ishl d_M_address_243 ?_
    refine rz_ior d_M_address_244 ?_
    refine rz_pure (pc' := 246) (l' := [(2, .int (xq2 ||| (xq3 <<< ((8 : Int32) &&& 31)))), (3, .int xq1), (0, .ref 116), (1, .int a1)]) d_M_address_245 rfl ?_
    refine rz_pure (pc' := 247) d_M_address_246 rfl ?_
    refine rz_pure (pc' := 248) d_M_address_247 rfl ?_
    refine rz_sipush (v := 255) d_M_address_248 (by decide) ?_
    refine rz_iand d_M_address_251 ?_
    refine rz_pure (pc' := 253) d_M_address_252 rfl ?_
    refine rz_getiv (v := Sq3.2 116 77) d_M_address_253 f_12_632 rfl rfl rfl ?_
    refine rz_iadd d_M_address_256 ?_
    refine rz_sipush (v := 255) d_M_address_257 (by decide) ?_
    refine rz_icmple (tgt := 267) d_M_address_260 rfl (fun b4 => ?_) (fun b4 => ?_)
    · skip
      refine rz_iconst (v := 0) d_M_address_267 (by decide) ?_
      refine rz_puti d_M_address_268 f_12_660 rfl rfl (by decide) ?_
      refine rz_pure (pc' := 272) d_M_address_271 rfl ?_
      refine rz_pure (pc' := 273) d_M_address_272 rfl ?_
      refine rz_getiv (v := Sq3.2 116 77) d_M_address_273 f_12_632 rfl rfl ((rz_uI_n (fun h => absurd h.2 (by decide))).trans rfl) ?_
      refine rz_iadd d_M_address_276 ?_
      exact rz_ireti d_M_address_277 rfl rfl (q3.1 b4)
    · skip
      refine rz_iconst (v := 1) d_M_address_263 (by decide) ?_
      refine rz_pure (pc' := 268) d_M_address_264 rfl ?_
      refine rz_puti d_M_address_268 f_12_660 rfl rfl (by decide) ?_
      refine rz_pure (pc' := 272) d_M_address_271 rfl ?_
      refine rz_pure (pc' := 273) d_M_address_272 rfl ?_
      refine rz_getiv (v := Sq3.2 116 77) d_M_address_273 f_12_632 rfl rfl ((rz_uI_n (fun h => absurd h.2 (by decide))).trans rfl) ?_
      refine rz_iadd d_M_address_276 ?_
      exact rz_ireti d_M_address_277 rfl rfl (q3.2 b4)
  · match j, hj with
    | 0, _ =>
      replace hx := hx.trans (show Int32.ofInt ((0 : Int) + ((0 : Nat) : Int)) = 0 from by decide)
      refine rz_tsj (tgt := 52) d_M_address_6 hx rfl ?_
      refine rz_pure (pc' := 53) d_M_address_52 rfl ?_
      refine rz_getiv (v := S.2 116 80) d_M_address_53 f_12_644 rfl rfl ((rz_uI_n (fun h => absurd h.2 (by decide))).trans rfl) ?_
      refine rz_pure (pc' := 57) (l' := [(2, .int (S.2 116 80)), (0, .ref 116), (1, .int a1)]) d_M_address_56 rfl ?_
      refine rz_pure (pc' := 58) d_M_address_57 rfl ?_
      refine rz_pure (pc' := 59) d_M_address_58 rfl ?_
      refine rz_getiv (v := S.2 116 80) d_M_address_59 f_12_644 rfl rfl ((rz_uI_n (fun h => absurd h.2 (by decide))).trans rfl) ?_
      refine rz_iconst (v := 1) d_M_address_62 (by decide) ?_
      refine rz_iadd d_M_address_63 ?_
      refine rz_sipush (v := 2047) d_M_address_64 (by decide) ?_
      refine rz_iand d_M_address_67 ?_
      refine rz_puti d_M_address_68 f_12_644 rfl rfl rfl ?_
      refine rz_pure (pc' := 72) d_M_address_71 rfl ?_
      exact rz_ireti d_M_address_72 rfl rfl (w.2.1 hx)
    | 1, _ =>
      replace hx := hx.trans (show Int32.ofInt ((0 : Int) + ((1 : Nat) : Int)) = 1 from by decide)
      refine rz_tsj (tgt := 73) d_M_address_6 hx rfl ?_
      refine rz_pure (pc' := 74) d_M_address_73 rfl ?_
      refine rz_callVi (t := []) d_M_address_74 w_12_653 rfl rfl rfl (w.2.2.1 hx) (fun xq5 Sq5 q5 => ?_)
      exact rz_ireti d_M_address_77 rfl rfl q5
    | 2, _ =>
      replace hx := hx.trans (show Int32.ofInt ((0 : Int) + ((2 : Nat) : Int)) = 2 from by decide)
      refine rz_tsj (tgt := 78) d_M_address_6 hx rfl ?_
      refine rz_pure (pc' := 79) d_M_address_78 rfl ?_
      refine rz_callVi (t := []) d_M_address_79 w_12_653 rfl rfl rfl (w.2.2.2.1 hx) (fun xq6 Sq6 q6 => ?_)
      refine rz_pure (pc' := 83) d_M_address_82 rfl ?_
      refine rz_getiv (v := Sq6.2 116 76) d_M_address_83 f_12_629 rfl rfl rfl ?_
      refine rz_iadd d_M_address_86 ?_
      refine rz_sipush (v := 255) d_M_address_87 (by decide) ?_
      refine rz_iand d_M_address_90 ?_
      exact rz_ireti d_M_address_91 rfl rfl q6
    | 3, _ =>
      replace hx := hx.trans (show Int32.ofInt ((0 : Int) + ((3 : Nat) : Int)) = 3 from by decide)
      refine rz_tsj (tgt := 92) d_M_address_6 hx rfl ?_
      refine rz_pure (pc' := 93) d_M_address_92 rfl ?_
      refine rz_callVi (t := []) d_M_address_93 w_12_653 rfl rfl rfl (w.2.2.2.2.1 hx) (fun xq7 Sq7 q7 => ?_)
      refine rz_pure (pc' := 97) d_M_address_96 rfl ?_
      refine rz_getiv (v := Sq7.2 116 77) d_M_address_97 f_12_632 rfl rfl rfl ?_
      refine rz_iadd d_M_address_100 ?_
      refine rz_sipush (v := 255) d_M_address_101 (by decide) ?_
      refine rz_iand d_M_address_104 ?_
      exact rz_ireti d_M_address_105 rfl rfl q7
    | 4, _ =>
      replace hx := hx.trans (show Int32.ofInt ((0 : Int) + ((4 : Nat) : Int)) = 4 from by decide)
      refine rz_tsj (tgt := 106) d_M_address_6 hx rfl ?_
      refine rz_pure (pc' := 107) d_M_address_106 rfl ?_
      refine rz_callVi (t := []) d_M_address_107 w_12_663 rfl rfl rfl (w.2.2.2.2.2.1 hx) (fun xq8 Sq8 q8 => ?_)
      exact rz_ireti d_M_address_110 rfl rfl q8
    | 5, _ =>
      replace hx := hx.trans (show Int32.ofInt ((0 : Int) + ((5 : Nat) : Int)) = 5 from by decide)
      refine rz_tsj (tgt := 111) d_M_address_6 hx rfl ?_
      refine rz_pure (pc' := 112) d_M_address_111 rfl ?_
      refine rz_callVi (t := []) d_M_address_112 w_12_663 rfl rfl rfl (w.2.2.2.2.2.2.1 hx) (fun xq9 Sq9 q9 => ?_)
      refine rz_pure (pc' := 116) (l' := [(2, .int xq9), (0, .ref 116), (1, .int a1)]) d_M_address_115 rfl ?_
      refine rz_pure (pc' := 117) d_M_address_116 rfl ?_
      refine rz_pure (pc' := 118) d_M_address_117 rfl ?_
      refine rz_sipush (v := 255) d_M_address_118 (by decide) ?_
      refine rz_iand d_M_address_121 ?_
      refine rz_pure (pc' := 123) d_M_address_122 rfl ?_
      refine rz_getiv (v := Sq9.2 116 76) d_M_address_123 f_12_629 rfl rfl rfl ?_
      refine rz_iadd d_M_address_126 ?_
      refine rz_sipush (v := 255) d_M_address_127 (by decide) ?_
      refine rz_icmple (tgt := 137) d_M_address_130 rfl (fun b10 => ?_) (fun b10 => ?_)
      · skip
        refine rz_iconst (v := 0) d_M_address_137 (by decide) ?_
        refine rz_puti d_M_address_138 f_12_660 rfl rfl (by decide) ?_
        refine rz_pure (pc' := 142) d_M_address_141 rfl ?_
        refine rz_pure (pc' := 143) d_M_address_142 rfl ?_
        refine rz_getiv (v := Sq9.2 116 76) d_M_address_143 f_12_629 rfl rfl ((rz_uI_n (fun h => absurd h.2 (by decide))).trans rfl) ?_
        refine rz_iadd d_M_address_146 ?_
        exact rz_ireti d_M_address_147 rfl rfl (q9.1 b10)
      · skip
        refine rz_iconst (v := 1) d_M_address_133 (by decide) ?_
        refine rz_pure (pc' := 138) d_M_address_134 rfl ?_
        refine rz_puti d_M_address_138 f_12_660 rfl rfl (by decide) ?_
        refine rz_pure (pc' := 142) d_M_address_141 rfl ?_
        refine rz_pure (pc' := 143) d_M_address_142 rfl ?_
        refine rz_getiv (v := Sq9.2 116 76) d_M_address_143 f_12_629 rfl rfl ((rz_uI_n (fun h => absurd h.2 (by decide))).trans rfl) ?_
        refine rz_iadd d_M_address_146 ?_
        exact rz_ireti d_M_address_147 rfl rfl (q9.2 b10)
    | 6, _ =>
      replace hx := hx.trans (show Int32.ofInt ((0 : Int) + ((6 : Nat) : Int)) = 6 from by decide)
      refine rz_tsj (tgt := 148) d_M_address_6 hx rfl ?_
      refine rz_pure (pc' := 149) d_M_address_148 rfl ?_
      refine rz_callVi (t := []) d_M_address_149 w_12_663 rfl rfl rfl (w.2.2.2.2.2.2.2.1 hx) (fun xq11 Sq11 q11 => ?_)
      refine rz_pure (pc' := 153) (l' := [(2, .int xq11), (0, .ref 116), (1, .int a1)]) d_M_address_152 rfl ?_
      refine rz_pure (pc' := 154) d_M_address_153 rfl ?_
      refine rz_pure (pc' := 155) d_M_address_154 rfl ?_
      refine rz_sipush (v := 255) d_M_address_155 (by decide) ?_
      refine rz_iand d_M_address_158 ?_
      refine rz_pure (pc' := 160) d_M_address_159 rfl ?_
      refine rz_getiv (v := Sq11.2 116 77) d_M_address_160 f_12_632 rfl rfl rfl ?_
      refine rz_iadd d_M_address_163 ?_
      refine rz_sipush (v := 255) d_M_address_164 (by decide) ?_
      refine rz_icmple (tgt := 174) d_M_address_167 rfl (fun b12 => ?_) (fun b12 => ?_)
      · skip
        refine rz_iconst (v := 0) d_M_address_174 (by decide) ?_
        refine rz_puti d_M_address_175 f_12_660 rfl rfl (by decide) ?_
        refine rz_pure (pc' := 179) d_M_address_178 rfl ?_
        refine rz_pure (pc' := 180) d_M_address_179 rfl ?_
        refine rz_getiv (v := Sq11.2 116 77) d_M_address_180 f_12_632 rfl rfl ((rz_uI_n (fun h => absurd h.2 (by decide))).trans rfl) ?_
        refine rz_iadd d_M_address_183 ?_
        exact rz_ireti d_M_address_184 rfl rfl (q11.1 b12)
      · skip
        refine rz_iconst (v := 1) d_M_address_170 (by decide) ?_
        refine rz_pure (pc' := 175) d_M_address_171 rfl ?_
        refine rz_puti d_M_address_175 f_12_660 rfl rfl (by decide) ?_
        refine rz_pure (pc' := 179) d_M_address_178 rfl ?_
        refine rz_pure (pc' := 180) d_M_address_179 rfl ?_
        refine rz_getiv (v := Sq11.2 116 77) d_M_address_180 f_12_632 rfl rfl ((rz_uI_n (fun h => absurd h.2 (by decide))).trans rfl) ?_
        refine rz_iadd d_M_address_183 ?_
        exact rz_ireti d_M_address_184 rfl rfl (q11.2 b12)
    | 7, _ =>
      replace hx := hx.trans (show Int32.ofInt ((0 : Int) + ((7 : Nat) : Int)) = 7 from by decide)
      refine rz_tsj (tgt := 185) d_M_address_6 hx rfl ?_
      refine rz_pure (pc' := 186) d_M_address_185 rfl ?_
      refine rz_callVi (t := []) d_M_address_186 w_12_653 rfl rfl rfl (w.2.2.2.2.2.2.2.2 hx) (fun xq13 Sq13 q13 => ?_)
      refine rz_pure (pc' := 190) d_M_address_189 rfl ?_
      refine rz_getiv (v := Sq13.2 116 76) d_M_address_190 f_12_629 rfl rfl rfl ?_
      refine rz_iadd d_M_address_193 ?_
      refine rz_sipush (v := 255) d_M_address_194 (by decide) ?_
      refine rz_iand d_M_address_197 ?_
      refine rz_pure (pc' := 199) (l' := [(3, .int ((xq13 + (Sq13.2 116 76)) &&& 255)), (0, .ref 116), (1, .int a1)]) d_M_address_198 rfl ?_
      refine rz_pure (pc' := 200) d_M_address_199 rfl ?_
      refine rz_pure (pc' := 201) d_M_address_200 rfl ?_
      refine rz_callVi (t := [.int ((xq13 + (Sq13.2 116 76)) &&& 255)]) d_M_address_201 w_12_620 rfl rfl rfl q13 (fun xq14 Sq14 q14 => ?_)
      refine rz_pure (pc' := 205) d_M_address_204 rfl ?_
      refine rz_pure (pc' := 206) d_M_address_205 rfl ?_
      refine rz_iconst (v := 1) d_M_address_206 (by decide) ?_
      refine rz_iadd d_M_address_207 ?_
      refine rz_sipush (v := 255) d_M_address_208 (by decide) ?_
      refine rz_iand d_M_address_211 ?_
      refine rz_callVi (t := [.int ((((xq13 + (Sq13.2 116 76)) &&& 255) + 1) &&& 255)]) d_M_address_212 w_12_620 rfl rfl rfl q14 (fun xq15 Sq15 q15 => ?_)
      refine rz_bipush (v := 8) d_M_address_215 (by decide) ?_
      refine rz_ishl d_M_address_217 ?_
      refine rz_ior d_M_address_218 ?_
      exact rz_ireti d_M_address_219 rfl rfl q15
    | j + 8, h => exact absurd h (by omega)
theorem d_M_readTime_0 : decode (rm_code mM_readTime) 0 = .ok (.aload_n 0, 1) := by decide +kernel
theorem d_M_readTime_1 : decode (rm_code mM_readTime) 1 = .ok (.getfield 660, 3) := by decide +kernel
theorem d_M_readTime_4 : decode (rm_code mM_readTime) 4 = .ok (.ifCond .eq (7), 3) := by decide +kernel
theorem d_M_readTime_7 : decode (rm_code mM_readTime) 7 = .ok (.iconst 1, 1) := by decide +kernel
theorem d_M_readTime_8 : decode (rm_code mM_readTime) 8 = .ok (.goto (4), 3) := by decide +kernel
theorem d_M_readTime_11 : decode (rm_code mM_readTime) 11 = .ok (.iconst 0, 1) := by decide +kernel
theorem d_M_readTime_12 : decode (rm_code mM_readTime) 12 = .ok (.istore_n 2, 1) := by decide +kernel
theorem d_M_readTime_13 : decode (rm_code mM_readTime) 13 = .ok (.iload_n 1, 1) := by decide +kernel
theorem d_M_readTime_14 : decode (rm_code mM_readTime) 14 = .ok (.tableswitch (59) (0) (7) #[(46), (48), (50), (50), (50), (52), (52), (56)], 46) := by decide +kernel
theorem d_M_readTime_60 : decode (rm_code mM_readTime) 60 = .ok (.iconst 2, 1) := by decide +kernel
theorem d_M_readTime_61 : decode (rm_code mM_readTime) 61 = .ok (.ireturn, 1) := by decide +kernel
theorem d_M_readTime_62 : decode (rm_code mM_readTime) 62 = .ok (.iconst 3, 1) := by decide +kernel
theorem d_M_readTime_63 : decode (rm_code mM_readTime) 63 = .ok (.ireturn, 1) := by decide +kernel
theorem d_M_readTime_64 : decode (rm_code mM_readTime) 64 = .ok (.iconst 4, 1) := by decide +kernel
theorem d_M_readTime_65 : decode (rm_code mM_readTime) 65 = .ok (.ireturn, 1) := by decide +kernel
theorem d_M_readTime_66 : decode (rm_code mM_readTime) 66 = .ok (.iconst 4, 1) := by decide +kernel
theorem d_M_readTime_67 : decode (rm_code mM_readTime) 67 = .ok (.iload_n 2, 1) := by decide +kernel
theorem d_M_readTime_68 : decode (rm_code mM_readTime) 68 = .ok (.iadd, 1) := by decide +kernel
theorem d_M_readTime_69 : decode (rm_code mM_readTime) 69 = .ok (.ireturn, 1) := by decide +kernel
theorem d_M_readTime_70 : decode (rm_code mM_readTime) 70 = .ok (.bipush (6), 2) := by decide +kernel
theorem d_M_readTime_72 : decode (rm_code mM_readTime) 72 = .ok (.ireturn, 1) := by decide +kernel
theorem d_M_readTime_73 : decode (rm_code mM_readTime) 73 = .ok (.iconst 5, 1) := by decide +kernel
theorem d_M_readTime_74 : decode (rm_code mM_readTime) 74 = .ok (.iload_n 2, 1) := by decide +kernel
theorem d_M_readTime_75 : decode (rm_code mM_readTime) 75 = .ok (.iadd, 1) := by decide +kernel
theorem d_M_readTime_76 : decode (rm_code mM_readTime) 76 = .ok (.ireturn, 1) := by decide +kernel
theorem p_M_readTime_0 {S : rz_S} {K : Int32 → rz_S → Prop} {a1 : Int32} (w : ((S.2 116 83 = 0 → rz mM_readTime 12 [(1, .int a1)] [.int 0] S (rz_i K)) ∧ (¬ S.2 116 83 = 0 → rz mM_readTime 12 [(1, .int a1)] [.int 1] S (rz_i K)))) : rz mM_readTime 0 [(0, .ref 116), (1, .int a1)] [] S (rz_i K) := by
  refine rz_pure (pc' := 1) d_M_readTime_0 rfl ?_
  refine rz_getiv (v := S.2 116 83) d_M_readTime_1 f_12_660 rfl rfl rfl ?_
  refine rz_ifeq (tgt := 11) d_M_readTime_4 rfl (fun b1 => ?_) (fun b1 => ?_)
  · skip
    refine rz_iconst (v := 0) d_M_readTime_11 (by decide) ?_
    exact rz_pick (ks := [1]) (l := [(1, .int a1)]) rfl rfl (by decide) rfl (w.1 b1)
  · skip
    refine rz_iconst (v := 1) d_M_readTime_7 (by decide) ?_
    refine rz_pure (pc' := 12) d_M_readTime_8 rfl ?_
    exact rz_pick (ks := [1]) (l := [(1, .int a1)]) rfl rfl (by decide) rfl (w.2 b1)
theorem p_M_readTime_12 {S : rz_S} {K : Int32 → rz_S → Prop} {a1 : Int32} {s0 : Int32} (w : ((a1.toInt < 0 ∨ 7 < a1.toInt → K (5 + s0) S) ∧ (a1 = 0 → K 2 S) ∧ (a1 = 1 → K 3 S) ∧ (a1 = 2 → K 4 S) ∧ (a1 = 3 → K 4 S) ∧ (a1 = 4 → K 4 S) ∧ (a1 = 5 → K (4 + s0) S) ∧ (a1 = 6 → K (4 + s0) S) ∧ (a1 = 7 → K 6 S))) : rz mM_readTime 12 [(1, .int a1)] [.int s0] S (rz_i K) := by
  refine rz_pure (pc' := 13) (l' := [(2, .int s0), (1, .int a1)]) d_M_readTime_12 rfl ?_
  refine rz_pure (pc' := 14) d_M_readTime_13 rfl ?_
  refine rz_tsw (n := 8) (lo := 0) (tgt := 73) d_M_readTime_14 rfl rfl (fun b0 => ?_) (fun j hj hx => ?_)
  · skip
    refine rz_iconst (v := 5) d_M_readTime_73 (by decide) ?_
    refine rz_pure (pc' := 75) d_M_readTime_74 rfl ?_
    refine rz_iadd d_M_readTime_75 ?_
    exact rz_ireti d_M_readTime_76 rfl rfl (w.1 b0)
  · match j, hj with
    | 0, _ =>
      replace hx := hx.trans (show Int32.ofInt ((0 : Int) + ((0 : Nat) : Int)) = 0 from by decide)
      refine rz_tsj (tgt := 60) d_M_readTime_14 hx rfl ?_
      refine rz_iconst (v := 2) d_M_readTime_60 (by decide) ?_
      exact rz_ireti d_M_readTime_61 rfl rfl (w.2.1 hx)
    | 1, _ =>
      replace hx := hx.trans (show Int32.ofInt ((0 : Int) + ((1 : Nat) : Int)) = 1 from by decide)
      refine rz_tsj (tgt := 62) d_M_readTime_14 hx rfl ?_
      refine rz_iconst (v := 3) d_M_readTime_62 (by decide) ?_
      exact rz_ireti d_M_readTime_63 rfl rfl (w.2.2.1 hx)
    | 2, _ =>
      replace hx := hx.trans (show Int32.ofInt ((0 : Int) + ((2 : Nat) : Int)) = 2 from by decide)
      refine rz_tsj (tgt := 64) d_M_readTime_14 hx rfl ?_
      refine rz_iconst (v := 4) d_M_readTime_64 (by decide) ?_
      exact rz_ireti d_M_readTime_65 rfl rfl (w.2.2.2.1 hx)
    | 3, _ =>
      replace hx := hx.trans (show Int32.ofInt ((0 : Int) + ((3 : Nat) : Int)) = 3 from by decide)
      refine rz_tsj (tgt := 64) d_M_readTime_14 hx rfl ?_
      refine rz_iconst (v := 4) d_M_readTime_64 (by decide) ?_
      exact rz_ireti d_M_readTime_65 rfl rfl (w.2.2.2.2.1 hx)
    | 4, _ =>
      replace hx := hx.trans (show Int32.ofInt ((0 : Int) + ((4 : Nat) : Int)) = 4 from by decide)
      refine rz_tsj (tgt := 64) d_M_readTime_14 hx rfl ?_
      refine rz_iconst (v := 4) d_M_readTime_64 (by decide) ?_
      exact rz_ireti d_M_readTime_65 rfl rfl (w.2.2.2.2.2.1 hx)
    | 5, _ =>
      replace hx := hx.trans (show Int32.ofInt ((0 : Int) + ((5 : Nat) : Int)) = 5 from by decide)
      refine rz_tsj (tgt := 66) d_M_readTime_14 hx rfl ?_
      refine rz_iconst (v := 4) d_M_readTime_66 (by decide) ?_
      refine rz_pure (pc' := 68) d_M_readTime_67 rfl ?_
      refine rz_iadd d_M_readTime_68 ?_
      exact rz_ireti d_M_readTime_69 rfl rfl (w.2.2.2.2.2.2.1 hx)
    | 6, _ =>
      replace hx := hx.trans (show Int32.ofInt ((0 : Int) + ((6 : Nat) : Int)) = 6 from by decide)
      refine rz_tsj (tgt := 66) d_M_readTime_14 hx rfl ?_
      refine rz_iconst (v := 4) d_M_readTime_66 (by decide) ?_
      refine rz_pure (pc' := 68) d_M_readTime_67 rfl ?_
      refine rz_iadd d_M_readTime_68 ?_
      exact rz_ireti d_M_readTime_69 rfl rfl (w.2.2.2.2.2.2.2.1 hx)
    | 7, _ =>
      replace hx := hx.trans (show Int32.ofInt ((0 : Int) + ((7 : Nat) : Int)) = 7 from by decide)
      refine rz_tsj (tgt := 70) d_M_readTime_14 hx rfl ?_
      refine rz_bipush (v := 6) d_M_readTime_70 (by decide) ?_
      exact rz_ireti d_M_readTime_72 rfl rfl (w.2.2.2.2.2.2.2.2 hx)
    | j + 8, h => exact absurd h (by omega)
theorem d_M_storeTime_0 : decode (rm_code mM_storeTime) 0 = .ok (.iload_n 0, 1) := by decide +kernel
theorem d_M_storeTime_1 : decode (rm_code mM_storeTime) 1 = .ok (.tableswitch (45) (1) (6) #[(39), (41), (41), (41), (43), (43)], 39) := by decide +kernel
theorem d_M_storeTime_40 : decode (rm_code mM_storeTime) 40 = .ok (.iconst 3, 1) := by decide +kernel
theorem d_M_storeTime_41 : decode (rm_code mM_storeTime) 41 = .ok (.ireturn, 1) := by decide +kernel
theorem d_M_storeTime_42 : decode (rm_code mM_storeTime) 42 = .ok (.iconst 4, 1) := by decide +kernel
theorem d_M_storeTime_43 : decode (rm_code mM_storeTime) 43 = .ok (.ireturn, 1) := by decide +kernel
theorem d_M_storeTime_44 : decode (rm_code mM_storeTime) 44 = .ok (.iconst 5, 1) := by decide +kernel
theorem d_M_storeTime_45 : decode (rm_code mM_storeTime) 45 = .ok (.ireturn, 1) := by decide +kernel
theorem d_M_storeTime_46 : decode (rm_code mM_storeTime) 46 = .ok (.bipush (6), 2) := by decide +kernel
theorem d_M_storeTime_48 : decode (rm_code mM_storeTime) 48 = .ok (.ireturn, 1) := by decide +kernel
theorem p_M_storeTime_0 {S : rz_S} {K : Int32 → rz_S → Prop} {a0 : Int32} (w : ((a0.toInt < 1 ∨ 6 < a0.toInt → K 6 S) ∧ (a0 = 1 → K 3 S) ∧ (a0 = 2 → K 4 S) ∧ (a0 = 3 → K 4 S) ∧ (a0 = 4 → K 4 S) ∧ (a0 = 5 → K 5 S) ∧ (a0 = 6 → K 5 S))) : rz mM_storeTime 0 [(0, .int a0)] [] S (rz_i K) := by
  refine rz_pure (pc' := 1) d_M_storeTime_0 rfl ?_
  refine rz_tsw (n := 6) (lo := 1) (tgt := 46) d_M_storeTime_1 rfl rfl (fun b0 => ?_) (fun j hj hx => ?_)
  · skip
    refine rz_bipush (v := 6) d_M_storeTime_46 (by decide) ?_
    exact rz_ireti d_M_storeTime_48 rfl rfl (w.1 b0)
  · match j, hj with
    | 0, _ =>
      replace hx := hx.trans (show Int32.ofInt ((1 : Int) + ((0 : Nat) : Int)) = 1 from by decide)
      refine rz_tsj (tgt := 40) d_M_storeTime_1 hx rfl ?_
      refine rz_iconst (v := 3) d_M_storeTime_40 (by decide) ?_
      exact rz_ireti d_M_storeTime_41 rfl rfl (w.2.1 hx)
    | 1, _ =>
      replace hx := hx.trans (show Int32.ofInt ((1 : Int) + ((1 : Nat) : Int)) = 2 from by decide)
      refine rz_tsj (tgt := 42) d_M_storeTime_1 hx rfl ?_
      refine rz_iconst (v := 4) d_M_storeTime_42 (by decide) ?_
      exact rz_ireti d_M_storeTime_43 rfl rfl (w.2.2.1 hx)
    | 2, _ =>
      replace hx := hx.trans (show Int32.ofInt ((1 : Int) + ((2 : Nat) : Int)) = 3 from by decide)
      refine rz_tsj (tgt := 42) d_M_storeTime_1 hx rfl ?_
      refine rz_iconst (v := 4) d_M_storeTime_42 (by decide) ?_
      exact rz_ireti d_M_storeTime_43 rfl rfl (w.2.2.2.1 hx)
    | 3, _ =>
      replace hx := hx.trans (show Int32.ofInt ((1 : Int) + ((3 : Nat) : Int)) = 4 from by decide)
      refine rz_tsj (tgt := 42) d_M_storeTime_1 hx rfl ?_
      refine rz_iconst (v := 4) d_M_storeTime_42 (by decide) ?_
      exact rz_ireti d_M_storeTime_43 rfl rfl (w.2.2.2.2.1 hx)
    | 4, _ =>
      replace hx := hx.trans (show Int32.ofInt ((1 : Int) + ((4 : Nat) : Int)) = 5 from by decide)
      refine rz_tsj (tgt := 44) d_M_storeTime_1 hx rfl ?_
      refine rz_iconst (v := 5) d_M_storeTime_44 (by decide) ?_
      exact rz_ireti d_M_storeTime_45 rfl rfl (w.2.2.2.2.2.1 hx)
    | 5, _ =>
      replace hx := hx.trans (show Int32.ofInt ((1 : Int) + ((5 : Nat) : Int)) = 6 from by decide)
      refine rz_tsj (tgt := 44) d_M_storeTime_1 hx rfl ?_
      refine rz_iconst (v := 5) d_M_storeTime_44 (by decide) ?_
      exact rz_ireti d_M_storeTime_45 rfl rfl (w.2.2.2.2.2.2 hx)
    | j + 6, h => exact absurd h (by omega)
theorem d_M_howOf_0 : decode (rm_code mM_howOf) 0 = .ok (.iload_n 0, 1) := by decide +kernel
theorem d_M_howOf_1 : decode (rm_code mM_howOf) 1 = .ok (.iconst 2, 1) := by decide +kernel
theorem d_M_howOf_2 : decode (rm_code mM_howOf) 2 = .ok (.ishr, 1) := by decide +kernel
theorem d_M_howOf_3 : decode (rm_code mM_howOf) 3 = .ok (.bipush (7), 2) := by decide +kernel
theorem d_M_howOf_5 : decode (rm_code mM_howOf) 5 = .ok (.iand, 1) := by decide +kernel
theorem d_M_howOf_6 : decode (rm_code mM_howOf) 6 = .ok (.tableswitch (59) (0) (6) #[(42), (45), (47), (49), (51), (54), (56)], 42) := by decide +kernel
theorem d_M_howOf_48 : decode (rm_code mM_howOf) 48 = .ok (.bipush (7), 2) := by decide +kernel
theorem d_M_howOf_50 : decode (rm_code mM_howOf) 50 = .ok (.ireturn, 1) := by decide +kernel
theorem d_M_howOf_51 : decode (rm_code mM_howOf) 51 = .ok (.iconst 1, 1) := by decide +kernel
theorem d_M_howOf_52 : decode (rm_code mM_howOf) 52 = .ok (.ireturn, 1) := by decide +kernel
theorem d_M_howOf_53 : decode (rm_code mM_howOf) 53 = .ok (.iconst 0, 1) := by decide +kernel
theorem d_M_howOf_54 : decode (rm_code mM_howOf) 54 = .ok (.ireturn, 1) := by decide +kernel
theorem d_M_howOf_55 : decode (rm_code mM_howOf) 55 = .ok (.iconst 4, 1) := by decide +kernel
theorem d_M_howOf_56 : decode (rm_code mM_howOf) 56 = .ok (.ireturn, 1) := by decide +kernel
theorem d_M_howOf_57 : decode (rm_code mM_howOf) 57 = .ok (.bipush (8), 2) := by decide +kernel
theorem d_M_howOf_59 : decode (rm_code mM_howOf) 59 = .ok (.ireturn, 1) := by decide +kernel
theorem d_M_howOf_60 : decode (rm_code mM_howOf) 60 = .ok (.iconst 2, 1) := by decide +kernel
theorem d_M_howOf_61 : decode (rm_code mM_howOf) 61 = .ok (.ireturn, 1) := by decide +kernel
theorem d_M_howOf_62 : decode (rm_code mM_howOf) 62 = .ok (.bipush (6), 2) := by decide +kernel
theorem d_M_howOf_64 : decode (rm_code mM_howOf) 64 = .ok (.ireturn, 1) := by decide +kernel
theorem d_M_howOf_65 : decode (rm_code mM_howOf) 65 = .ok (.iconst 5, 1) := by decide +kernel
theorem d_M_howOf_66 : decode (rm_code mM_howOf) 66 = .ok (.ireturn, 1) := by decide +kernel
theorem p_M_howOf_0 {S : rz_S} {K : Int32 → rz_S → Prop} {a0 : Int32} (w : ((((a0 >>> ((2 : Int32) &&& 31)) &&& 7).toInt < 0 ∨ 6 < ((a0 >>> ((2 : Int32) &&& 31)) &&& 7).toInt → K 5 S) ∧ (((a0 >>> ((2 : Int32) &&& 31)) &&& 7) = 0 → K 7 S) ∧ (((a0 >>> ((2 : Int32) &&& 31)) &&& 7) = 1 → K 1 S) ∧ (((a0 >>> ((2 : Int32) &&& 31)) &&& 7) = 2 → K 0 S) ∧ (((a0 >>> ((2 : Int32) &&& 31)) &&& 7) = 3 → K 4 S) ∧ (((a0 >>> ((2 : Int32) &&& 31)) &&& 7) = 4 → K 8 S) ∧ (((a0 >>> ((2 : Int32) &&& 31)) &&& 7) = 5 → K 2 S) ∧ (((a0 >>> ((2 : Int32) &&& 31)) &&& 7) = 6 → K 6 S))) : rz mM_howOf 0 [(0, .int a0)] [] S (rz_i K) := by
  refine rz_pure (pc' := 1) d_M_howOf_0 rfl ?_
  refine rz_iconst (v := 2) d_M_howOf_1 (by decide) ?_
  refine rz_ishr d_M_howOf_2 ?_
  refine rz_bipush (v := 7) d_M_howOf_3 (by decide) ?_
  refine rz_iand d_M_howOf_5 ?_
  refine rz_tsw (n := 7) (lo := 0) (tgt := 65) d_M_howOf_6 rfl rfl (fun b0 => ?_) (fun j hj hx => ?_)
  · skip
    refine rz_iconst (v := 5) d_M_howOf_65 (by decide) ?_
    exact rz_ireti d_M_howOf_66 rfl rfl (w.1 b0)
  · match j, hj with
    | 0, _ =>
      replace hx := hx.trans (show Int32.ofInt ((0 : Int) + ((0 : Nat) : Int)) = 0 from by decide)
      refine rz_tsj (tgt := 48) d_M_howOf_6 hx rfl ?_
      refine rz_bipush (v := 7) d_M_howOf_48 (by decide) ?_
      exact rz_ireti d_M_howOf_50 rfl rfl (w.2.1 hx)
    | 1, _ =>
      replace hx := hx.trans (show Int32.ofInt ((0 : Int) + ((1 : Nat) : Int)) = 1 from by decide)
      refine rz_tsj (tgt := 51) d_M_howOf_6 hx rfl ?_
      refine rz_iconst (v := 1) d_M_howOf_51 (by decide) ?_
      exact rz_ireti d_M_howOf_52 rfl rfl (w.2.2.1 hx)
    | 2, _ =>
      replace hx := hx.trans (show Int32.ofInt ((0 : Int) + ((2 : Nat) : Int)) = 2 from by decide)
      refine rz_tsj (tgt := 53) d_M_howOf_6 hx rfl ?_
      refine rz_iconst (v := 0) d_M_howOf_53 (by decide) ?_
      exact rz_ireti d_M_howOf_54 rfl rfl (w.2.2.2.1 hx)
    | 3, _ =>
      replace hx := hx.trans (show Int32.ofInt ((0 : Int) + ((3 : Nat) : Int)) = 3 from by decide)
      refine rz_tsj (tgt := 55) d_M_howOf_6 hx rfl ?_
      refine rz_iconst (v := 4) d_M_howOf_55 (by decide) ?_
      exact rz_ireti d_M_howOf_56 rfl rfl (w.2.2.2.2.1 hx)
    | 4, _ =>
      replace hx := hx.trans (show Int32.ofInt ((0 : Int) + ((4 : Nat) : Int)) = 4 from by decide)
      refine rz_tsj (tgt := 57) d_M_howOf_6 hx rfl ?_
      refine rz_bipush (v := 8) d_M_howOf_57 (by decide) ?_
      exact rz_ireti d_M_howOf_59 rfl rfl (w.2.2.2.2.2.1 hx)
    | 5, _ =>
      replace hx := hx.trans (show Int32.ofInt ((0 : Int) + ((5 : Nat) : Int)) = 5 from by decide)
      refine rz_tsj (tgt := 60) d_M_howOf_6 hx rfl ?_
      refine rz_iconst (v := 2) d_M_howOf_60 (by decide) ?_
      exact rz_ireti d_M_howOf_61 rfl rfl (w.2.2.2.2.2.2.1 hx)
    | 6, _ =>
      replace hx := hx.trans (show Int32.ofInt ((0 : Int) + ((6 : Nat) : Int)) = 6 from by decide)
      refine rz_tsj (tgt := 62) d_M_howOf_6 hx rfl ?_
      refine rz_bipush (v := 6) d_M_howOf_62 (by decide) ?_
      exact rz_ireti d_M_howOf_64 rfl rfl (w.2.2.2.2.2.2.2 hx)
    | j + 7, h => exact absurd h (by omega)
theorem d_M_adds_0 : decode (rm_code mM_adds) 0 = .ok (.aload_n 0, 1) := by decide +kernel
theorem d_M_adds_1 : decode (rm_code mM_adds) 1 = .ok (.iconst 1, 1) := by decide +kernel
theorem d_M_adds_2 : decode (rm_code mM_adds) 2 = .ok (.invokevirtual 666, 3) := by decide +kernel
theorem d_M_adds_5 : decode (rm_code mM_adds) 5 = .ok (.ifCond .eq (7), 3) := by decide +kernel
theorem d_M_adds_8 : decode (rm_code mM_adds) 8 = .ok (.iconst 1, 1) := by decide +kernel
theorem d_M_adds_9 : decode (rm_code mM_adds) 9 = .ok (.goto (4), 3) := by decide +kernel
theorem d_M_adds_12 : decode (rm_code mM_adds) 12 = .ok (.iconst 0, 1) := by decide +kernel
theorem d_M_adds_13 : decode (rm_code mM_adds) 13 = .ok (.istore_n 2, 1) := by decide +kernel
theorem d_M_adds_14 : decode (rm_code mM_adds) 14 = .ok (.aload_n 0, 1) := by decide +kernel
theorem d_M_adds_15 : decode (rm_code mM_adds) 15 = .ok (.getfield 626, 3) := by decide +kernel
theorem d_M_adds_18 : decode (rm_code mM_adds) 18 = .ok (.iload_n 1, 1) := by decide +kernel
theorem d_M_adds_19 : decode (rm_code mM_adds) 19 = .ok (.iadd, 1) := by decide +kernel
theorem d_M_adds_20 : decode (rm_code mM_adds) 20 = .ok (.iload_n 2, 1) := by decide +kernel
theorem d_M_adds_21 : decode (rm_code mM_adds) 21 = .ok (.iadd, 1) := by decide +kernel
theorem d_M_adds_22 : decode (rm_code mM_adds) 22 = .ok (.istore_n 3, 1) := by decide +kernel
theorem d_M_adds_23 : decode (rm_code mM_adds) 23 = .ok (.aload_n 0, 1) := by decide +kernel
theorem d_M_adds_24 : decode (rm_code mM_adds) 24 = .ok (.bipush (8), 2) := by decide +kernel
theorem d_M_adds_26 : decode (rm_code mM_adds) 26 = .ok (.invokevirtual 666, 3) := by decide +kernel
theorem d_M_adds_29 : decode (rm_code mM_adds) 29 = .ok (.ifCond .ne (63), 3) := by decide +kernel
theorem d_M_adds_32 : decode (rm_code mM_adds) 32 = .ok (.aload_n 0, 1) := by decide +kernel
theorem d_M_adds_33 : decode (rm_code mM_adds) 33 = .ok (.bipush (64), 2) := by decide +kernel
theorem d_M_adds_35 : decode (rm_code mM_adds) 35 = .ok (.aload_n 0, 1) := by decide +kernel
theorem d_M_adds_36 : decode (rm_code mM_adds) 36 = .ok (.getfield 626, 3) := by decide +kernel
theorem d_M_adds_39 : decode (rm_code mM_adds) 39 = .ok (.iload_n 1, 1) := by decide +kernel
theorem d_M_adds_40 : decode (rm_code mM_adds) 40 = .ok (.ixor, 1) := by decide +kernel
theorem d_M_adds_41 : decode (rm_code mM_adds) 41 = .ok (.iconst (-1), 1) := by decide +kernel
theorem d_M_adds_42 : decode (rm_code mM_adds) 42 = .ok (.ixor, 1) := by decide +kernel
theorem d_M_adds_43 : decode (rm_code mM_adds) 43 = .ok (.aload_n 0, 1) := by decide +kernel
theorem d_M_adds_44 : decode (rm_code mM_adds) 44 = .ok (.getfield 626, 3) := by decide +kernel
theorem d_M_adds_47 : decode (rm_code mM_adds) 47 = .ok (.iload_n 3, 1) := by decide +kernel
theorem d_M_adds_48 : decode (rm_code mM_adds) 48 = .ok (.ixor, 1) := by decide +kernel
theorem d_M_adds_49 : decode (rm_code mM_adds) 49 = .ok (.iand, 1) := by decide +kernel
theorem d_M_adds_50 : decode (rm_code mM_adds) 50 = .ok (.sipush (128), 3) := by decide +kernel
theorem d_M_adds_53 : decode (rm_code mM_adds) 53 = .ok (.iand, 1) := by decide +kernel
theorem d_M_adds_54 : decode (rm_code mM_adds) 54 = .ok (.ifCond .eq (7), 3) := by decide +kernel
theorem d_M_adds_57 : decode (rm_code mM_adds) 57 = .ok (.iconst 1, 1) := by decide +kernel
theorem d_M_adds_58 : decode (rm_code mM_adds) 58 = .ok (.goto (4), 3) := by decide +kernel
theorem d_M_adds_61 : decode (rm_code mM_adds) 61 = .ok (.iconst 0, 1) := by decide +kernel
theorem d_M_adds_62 : decode (rm_code mM_adds) 62 = .ok (.invokevirtual 656, 3) := by decide +kernel
theorem d_M_adds_65 : decode (rm_code mM_adds) 65 = .ok (.aload_n 0, 1) := by decide +kernel
theorem d_M_adds_66 : decode (rm_code mM_adds) 66 = .ok (.iconst 1, 1) := by decide +kernel
theorem d_M_adds_67 : decode (rm_code mM_adds) 67 = .ok (.iload_n 3, 1) := by decide +kernel
theorem d_M_adds_68 : decode (rm_code mM_adds) 68 = .ok (.sipush (255), 3) := by decide +kernel
theorem d_M_adds_71 : decode (rm_code mM_adds) 71 = .ok (.if_icmp .le (7), 3) := by decide +kernel
theorem d_M_adds_74 : decode (rm_code mM_adds) 74 = .ok (.iconst 1, 1) := by decide +kernel
theorem d_M_adds_75 : decode (rm_code mM_adds) 75 = .ok (.goto (4), 3) := by decide +kernel
theorem d_M_adds_78 : decode (rm_code mM_adds) 78 = .ok (.iconst 0, 1) := by decide +kernel
theorem d_M_adds_79 : decode (rm_code mM_adds) 79 = .ok (.invokevirtual 656, 3) := by decide +kernel
theorem d_M_adds_82 : decode (rm_code mM_adds) 82 = .ok (.aload_n 0, 1) := by decide +kernel
theorem d_M_adds_83 : decode (rm_code mM_adds) 83 = .ok (.aload_n 0, 1) := by decide +kernel
theorem d_M_adds_84 : decode (rm_code mM_adds) 84 = .ok (.iload_n 3, 1) := by decide +kernel
theorem d_M_adds_85 : decode (rm_code mM_adds) 85 = .ok (.invokevirtual 669, 3) := by decide +kernel
theorem d_M_adds_88 : decode (rm_code mM_adds) 88 = .ok (.putfield 626, 3) := by decide +kernel
theorem d_M_adds_91 : decode (rm_code mM_adds) 91 = .ok (.return_, 1) := by decide +kernel
theorem d_M_adds_92 : decode (rm_code mM_adds) 92 = .ok (.aload_n 0, 1) := by decide +kernel
theorem d_M_adds_93 : decode (rm_code mM_adds) 93 = .ok (.getfield 626, 3) := by decide +kernel
theorem d_M_adds_96 : decode (rm_code mM_adds) 96 = .ok (.bipush (15), 2) := by decide +kernel
theorem d_M_adds_98 : decode (rm_code mM_adds) 98 = .ok (.iand, 1) := by decide +kernel
theorem d_M_adds_99 : decode (rm_code mM_adds) 99 = .ok (.iload_n 1, 1) := by decide +kernel
theorem d_M_adds_100 : decode (rm_code mM_adds) 100 = .ok (.bipush (15), 2) := by decide +kernel
theorem d_M_adds_102 : decode (rm_code mM_adds) 102 = .ok (.iand, 1) := by decide +kernel
theorem d_M_adds_103 : decode (rm_code mM_adds) 103 = .ok (.iadd, 1) := by decide +kernel
theorem d_M_adds_104 : decode (rm_code mM_adds) 104 = .ok (.iload_n 2, 1) := by decide +kernel
theorem d_M_adds_105 : decode (rm_code mM_adds) 105 = .ok (.iadd, 1) := by decide +kernel
theorem d_M_adds_106 : decode (rm_code mM_adds) 106 = .ok (.istore 4, 2) := by decide +kernel
theorem d_M_adds_108 : decode (rm_code mM_adds) 108 = .ok (.iload 4, 2) := by decide +kernel
theorem d_M_adds_110 : decode (rm_code mM_adds) 110 = .ok (.bipush (9), 2) := by decide +kernel
theorem d_M_adds_112 : decode (rm_code mM_adds) 112 = .ok (.if_icmp .le (16), 3) := by decide +kernel
theorem d_M_adds_115 : decode (rm_code mM_adds) 115 = .ok (.bipush (16), 2) := by decide +kernel
theorem d_M_adds_117 : decode (rm_code mM_adds) 117 = .ok (.iload 4, 2) := by decide +kernel
theorem d_M_adds_119 : decode (rm_code mM_adds) 119 = .ok (.bipush (6), 2) := by decide +kernel
theorem d_M_adds_121 : decode (rm_code mM_adds) 121 = .ok (.iadd, 1) := by decide +kernel
theorem d_M_adds_122 : decode (rm_code mM_adds) 122 = .ok (.bipush (15), 2) := by decide +kernel
theorem d_M_adds_124 : decode (rm_code mM_adds) 124 = .ok (.iand, 1) := by decide +kernel
theorem d_M_adds_125 : decode (rm_code mM_adds) 125 = .ok (.iadd, 1) := by decide +kernel
theorem d_M_adds_126 : decode (rm_code mM_adds) 126 = .ok (.istore 4, 2) := by decide +kernel
theorem d_M_adds_128 : decode (rm_code mM_adds) 128 = .ok (.aload_n 0, 1) := by decide +kernel
theorem d_M_adds_129 : decode (rm_code mM_adds) 129 = .ok (.getfield 626, 3) := by decide +kernel
theorem d_M_adds_132 : decode (rm_code mM_adds) 132 = .ok (.sipush (240), 3) := by decide +kernel
theorem d_M_adds_135 : decode (rm_code mM_adds) 135 = .ok (.iand, 1) := by decide +kernel
theorem d_M_adds_136 : decode (rm_code mM_adds) 136 = .ok (.iload_n 1, 1) := by decide +kernel
theorem d_M_adds_137 : decode (rm_code mM_adds) 137 = .ok (.sipush (240), 3) := by decide +kernel
theorem d_M_adds_140 : decode (rm_code mM_adds) 140 = .ok (.iand, 1) := by decide +kernel
theorem d_M_adds_141 : decode (rm_code mM_adds) 141 = .ok (.iadd, 1) := by decide +kernel
theorem d_M_adds_142 : decode (rm_code mM_adds) 142 = .ok (.iload 4, 2) := by decide +kernel
theorem d_M_adds_144 : decode (rm_code mM_adds) 144 = .ok (.iadd, 1) := by decide +kernel
theorem d_M_adds_145 : decode (rm_code mM_adds) 145 = .ok (.istore 5, 2) := by decide +kernel
theorem d_M_adds_147 : decode (rm_code mM_adds) 147 = .ok (.aload_n 0, 1) := by decide +kernel
theorem d_M_adds_148 : decode (rm_code mM_adds) 148 = .ok (.iconst 2, 1) := by decide +kernel
theorem d_M_adds_149 : decode (rm_code mM_adds) 149 = .ok (.iload_n 3, 1) := by decide +kernel
theorem d_M_adds_150 : decode (rm_code mM_adds) 150 = .ok (.sipush (255), 3) := by decide +kernel
theorem d_M_adds_153 : decode (rm_code mM_adds) 153 = .ok (.iand, 1) := by decide +kernel
theorem d_M_adds_154 : decode (rm_code mM_adds) 154 = .ok (.ifCond .ne (7), 3) := by decide +kernel
theorem d_M_adds_157 : decode (rm_code mM_adds) 157 = .ok (.iconst 1, 1) := by decide +kernel
theorem d_M_adds_158 : decode (rm_code mM_adds) 158 = .ok (.goto (4), 3) := by decide +kernel
theorem d_M_adds_161 : decode (rm_code mM_adds) 161 = .ok (.iconst 0, 1) := by decide +kernel
theorem d_M_adds_162 : decode (rm_code mM_adds) 162 = .ok (.invokevirtual 656, 3) := by decide +kernel
theorem d_M_adds_165 : decode (rm_code mM_adds) 165 = .ok (.aload_n 0, 1) := by decide +kernel
theorem d_M_adds_166 : decode (rm_code mM_adds) 166 = .ok (.sipush (128), 3) := by decide +kernel
theorem d_M_adds_169 : decode (rm_code mM_adds) 169 = .ok (.iload 5, 2) := by decide +kernel
theorem d_M_adds_171 : decode (rm_code mM_adds) 171 = .ok (.sipush (128), 3) := by decide +kernel
theorem d_M_adds_174 : decode (rm_code mM_adds) 174 = .ok (.iand, 1) := by decide +kernel
theorem d_M_adds_175 : decode (rm_code mM_adds) 175 = .ok (.ifCond .eq (7), 3) := by decide +kernel
theorem d_M_adds_178 : decode (rm_code mM_adds) 178 = .ok (.iconst 1, 1) := by decide +kernel
theorem d_M_adds_179 : decode (rm_code mM_adds) 179 = .ok (.goto (4), 3) := by decide +kernel
theorem d_M_adds_182 : decode (rm_code mM_adds) 182 = .ok (.iconst 0, 1) := by decide +kernel
theorem d_M_adds_183 : decode (rm_code mM_adds) 183 = .ok (.invokevirtual 656, 3) := by decide +kernel
theorem d_M_adds_186 : decode (rm_code mM_adds) 186 = .ok (.aload_n 0, 1) := by decide +kernel
theorem d_M_adds_187 : decode (rm_code mM_adds) 187 = .ok (.bipush (64), 2) := by decide +kernel
theorem d_M_adds_189 : decode (rm_code mM_adds) 189 = .ok (.aload_n 0, 1) := by decide +kernel
theorem d_M_adds_190 : decode (rm_code mM_adds) 190 = .ok (.getfield 626, 3) := by decide +kernel
theorem d_M_adds_193 : decode (rm_code mM_adds) 193 = .ok (.iload_n 1, 1) := by decide +kernel
theorem d_M_adds_194 : decode (rm_code mM_adds) 194 = .ok (.ixor, 1) := by decide +kernel
theorem d_M_adds_195 : decode (rm_code mM_adds) 195 = .ok (.iconst (-1), 1) := by decide +kernel
theorem d_M_adds_196 : decode (rm_code mM_adds) 196 = .ok (.ixor, 1) := by decide +kernel
theorem d_M_adds_197 : decode (rm_code mM_adds) 197 = .ok (.aload_n 0, 1) := by decide +kernel
theorem d_M_adds_198 : decode (rm_code mM_adds) 198 = .ok (.getfield 626, 3) := by decide +kernel
theorem d_M_adds_201 : decode (rm_code mM_adds) 201 = .ok (.iload 5, 2) := by decide +kernel
theorem d_M_adds_203 : decode (rm_code mM_adds) 203 = .ok (.ixor, 1) := by decide +kernel
theorem d_M_adds_204 : decode (rm_code mM_adds) 204 = .ok (.iand, 1) := by decide +kernel
theorem d_M_adds_205 : decode (rm_code mM_adds) 205 = .ok (.sipush (128), 3) := by decide +kernel
theorem d_M_adds_208 : decode (rm_code mM_adds) 208 = .ok (.iand, 1) := by decide +kernel
theorem d_M_adds_209 : decode (rm_code mM_adds) 209 = .ok (.ifCond .eq (7), 3) := by decide +kernel
theorem d_M_adds_212 : decode (rm_code mM_adds) 212 = .ok (.iconst 1, 1) := by decide +kernel
theorem d_M_adds_213 : decode (rm_code mM_adds) 213 = .ok (.goto (4), 3) := by decide +kernel
theorem d_M_adds_216 : decode (rm_code mM_adds) 216 = .ok (.iconst 0, 1) := by decide +kernel
theorem d_M_adds_217 : decode (rm_code mM_adds) 217 = .ok (.invokevirtual 656, 3) := by decide +kernel
theorem d_M_adds_220 : decode (rm_code mM_adds) 220 = .ok (.iload 5, 2) := by decide +kernel
theorem d_M_adds_222 : decode (rm_code mM_adds) 222 = .ok (.sipush (159), 3) := by decide +kernel
theorem d_M_adds_225 : decode (rm_code mM_adds) 225 = .ok (.if_icmp .le (10), 3) := by decide +kernel
theorem d_M_adds_228 : decode (rm_code mM_adds) 228 = .ok (.iload 5, 2) := by decide +kernel
theorem d_M_adds_230 : decode (rm_code mM_adds) 230 = .ok (.bipush (96), 2) := by decide +kernel
theorem d_M_adds_232 : decode (rm_code mM_adds) 232 = .ok (.iadd, 1) := by decide +kernel
theorem d_M_adds_233 : decode (rm_code mM_adds) 233 = .ok (.istore 5, 2) := by decide +kernel
theorem d_M_adds_235 : decode (rm_code mM_adds) 235 = .ok (.aload_n 0, 1) := by decide +kernel
theorem d_M_adds_236 : decode (rm_code mM_adds) 236 = .ok (.iconst 1, 1) := by decide +kernel
theorem d_M_adds_237 : decode (rm_code mM_adds) 237 = .ok (.iload 5, 2) := by decide +kernel
theorem d_M_adds_239 : decode (rm_code mM_adds) 239 = .ok (.sipush (255), 3) := by decide +kernel
theorem d_M_adds_242 : decode (rm_code mM_adds) 242 = .ok (.if_icmp .le (7), 3) := by decide +kernel
theorem d_M_adds_245 : decode (rm_code mM_adds) 245 = .ok (.iconst 1, 1) := by decide +kernel
theorem d_M_adds_246 : decode (rm_code mM_adds) 246 = .ok (.goto (4), 3) := by decide +kernel
theorem d_M_adds_249 : decode (rm_code mM_adds) 249 = .ok (.iconst 0, 1) := by decide +kernel
theorem d_M_adds_250 : decode (rm_code mM_adds) 250 = .ok (.invokevirtual 656, 3) := by decide +kernel
theorem d_M_adds_253 : decode (rm_code mM_adds) 253 = .ok (.aload_n 0, 1) := by decide +kernel
theorem d_M_adds_254 : decode (rm_code mM_adds) 254 = .ok (.iload 5, 2) := by decide +kernel
theorem d_M_adds_256 : decode (rm_code mM_adds) 256 = .ok (.sipush (255), 3) := by decide +kernel
theorem d_M_adds_259 : decode (rm_code mM_adds) 259 = .ok (.iand, 1) := by decide +kernel
theorem d_M_adds_260 : decode (rm_code mM_adds) 260 = .ok (.putfield 626, 3) := by decide +kernel
theorem d_M_adds_263 : decode (rm_code mM_adds) 263 = .ok (.return_, 1) := by decide +kernel
theorem p_M_adds_0 {S : rz_S} {K : rz_S → Prop} {a1 : Int32} (w : rz_ev mM_is [.ref 116, .int 1] S (rz_i (fun xq1 Sq1 => ((xq1 = 0 → rz mM_adds 13 [(0, .ref 116), (1, .int a1)] [.int 0] Sq1 (rz_v K)) ∧ (¬ xq1 = 0 → rz mM_adds 13 [(0, .ref 116), (1, .int a1)] [.int 1] Sq1 (rz_v K)))))) : rz mM_adds 0 [(0, .ref 116), (1, .int a1)] [] S (rz_v K) := by
  refine rz_pure (pc' := 1) d_M_adds_0 rfl ?_
  refine rz_iconst (v := 1) d_M_adds_1 (by decide) ?_
  refine rz_callVi (t := [.int 1]) d_M_adds_2 w_12_666 rfl rfl rfl w (fun xq1 Sq1 q1 => ?_)
  refine rz_ifeq (tgt := 12) d_M_adds_5 rfl (fun b2 => ?_) (fun b2 => ?_)
  · skip
    refine rz_iconst (v := 0) d_M_adds_12 (by decide) ?_
    exact rz_pick (ks := [0, 1]) (l := [(0, .ref 116), (1, .int a1)]) rfl rfl (by decide) rfl (q1.1 b2)
  · skip
    refine rz_iconst (v := 1) d_M_adds_8 (by decide) ?_
    refine rz_pure (pc' := 13) d_M_adds_9 rfl ?_
    exact rz_pick (ks := [0, 1]) (l := [(0, .ref 116), (1, .int a1)]) rfl rfl (by decide) rfl (q1.2 b2)
theorem p_M_adds_13 {S : rz_S} {K : rz_S → Prop} {a1 : Int32} {s0 : Int32} (w : rz_ev mM_is [.ref 116, .int 8] S (rz_i (fun xq1 Sq1 => ((xq1 = 0 → ((((((Sq1.2 116 75) ^^^ a1) ^^^ (-1)) &&& ((Sq1.2 116 75) ^^^ (((S.2 116 75) + a1) + s0))) &&& 128 = 0 → rz mM_adds 62 [(0, .ref 116), (3, .int (((S.2 116 75) + a1) + s0))] [.int 0, .int 64, .ref 116] Sq1 (rz_v K)) ∧ (¬ ((((Sq1.2 116 75) ^^^ a1) ^^^ (-1)) &&& ((Sq1.2 116 75) ^^^ (((S.2 116 75) + a1) + s0))) &&& 128 = 0 → rz mM_adds 62 [(0, .ref 116), (3, .int (((S.2 116 75) + a1) + s0))] [.int 1, .int 64, .ref 116] Sq1 (rz_v K)))) ∧ (¬ xq1 = 0 → (((((Sq1.2 116 75) &&& 15) + (a1 &&& 15)) + s0 ≤ 9 → rz mM_adds 128 [(0, .ref 116), (1, .int a1), (3, .int (((S.2 116 75) + a1) + s0)), (4, .int ((((Sq1.2 116 75) &&& 15) + (a1 &&& 15)) + s0))] [] Sq1 (rz_v K)) ∧ (¬ (((Sq1.2 116 75) &&& 15) + (a1 &&& 15)) + s0 ≤ 9 → rz mM_adds 128 [(0, .ref 116), (1, .int a1), (3, .int (((S.2 116 75) + a1) + s0)), (4, .int (16 + ((((((Sq1.2 116 75) &&& 15) + (a1 &&& 15)) + s0) + 6) &&& 15)))] [] Sq1 (rz_v K)))))))) : rz mM_adds 13 [(0, .ref 116), (1, .int a1)] [.int s0] S (rz_v K) := by
  refine rz_pure (pc' := 14) (l' := [(2, .int s0), (0, .ref 116), (1, .int a1)]) d_M_adds_13 rfl ?_
  refine rz_pure (pc' := 15) d_M_adds_14 rfl ?_
  refine rz_getiv (v := S.2 116 75) d_M_adds_15 f_12_626 rfl rfl rfl ?_
  refine rz_pure (pc' := 19) d_M_adds_18 rfl ?_
  refine rz_iadd d_M_adds_19 ?_
  refine rz_pure (pc' := 21) d_M_adds_20 rfl ?_
  refine rz_iadd d_M_adds_21 ?_
  refine rz_pure (pc' := 23) (l' := [(3, .int (((S.2 116 75) + a1) + s0)), (2, .int s0), (0, .ref 116), (1, .int a1)]) d_M_adds_22 rfl ?_
  refine rz_pure (pc' := 24) d_M_adds_23 rfl ?_
  refine rz_bipush (v := 8) d_M_adds_24 (by decide) ?_
  refine rz_callVi (t := [.int 8]) d_M_adds_26 w_12_666 rfl rfl rfl w (fun xq1 Sq1 q1 => ?_)
  refine rz_ifne (tgt := 92) d_M_adds_29 rfl (fun b2 => ?_) (fun b2 => ?_)
  · skip
    refine rz_pure (pc' := 93) d_M_adds_92 rfl ?_
    refine rz_getiv (v := Sq1.2 116 75) d_M_adds_93 f_12_626 rfl rfl rfl ?_
    refine rz_bipush (v := 15) d_M_adds_96 (by decide) ?_
    refine rz_iand d_M_adds_98 ?_
    refine rz_pure (pc' := 100) d_M_adds_99 rfl ?_
    refine rz_bipush (v := 15) d_M_adds_100 (by decide) ?_
    refine rz_iand d_M_adds_102 ?_
    refine rz_iadd d_M_adds_103 ?_
    refine rz_pure (pc' := 105) d_M_adds_104 rfl ?_
    refine rz_iadd d_M_adds_105 ?_
    refine rz_pure (pc' := 108) (l' := [(4, .int ((((Sq1.2 116 75) &&& 15) + (a1 &&& 15)) + s0)), (3, .int (((S.2 116 75) + a1) + s0)), (2, .int s0), (0, .ref 116), (1, .int a1)]) d_M_adds_106 rfl ?_
    refine rz_pure (pc' := 110) d_M_adds_108 rfl ?_
    refine rz_bipush (v := 9) d_M_adds_110 (by decide) ?_
    refine rz_icmple (tgt := 128) d_M_adds_112 rfl (fun b3 => ?_) (fun b3 => ?_)
    · skip
      exact rz_pick (ks := [0, 1, 3, 4]) (l := [(0, .ref 116), (1, .int a1), (3, .int (((S.2 116 75) + a1) + s0)), (4, .int ((((Sq1.2 116 75) &&& 15) + (a1 &&& 15)) + s0))]) rfl rfl (by decide) rfl ((q1.2 b2).1 b3)
    · skip
      refine rz_bipush (v := 16) d_M_adds_115 (by decide) ?_
      refine rz_pure (pc' := 119) d_M_adds_117 rfl ?_
      refine rz_bipush (v := 6) d_M_adds_119 (by decide) ?_
      refine rz_iadd d_M_adds_121 ?_
      refine rz_bipush (v := 15) d_M_adds_122 (by decide) ?_
      refine rz_iand d_M_adds_124 ?_
      refine rz_iadd d_M_adds_125 ?_
      refine rz_pure (pc' := 128) (l' := [(4, .int (16 + ((((((Sq1.2 116 75) &&& 15) + (a1 &&& 15)) + s0) + 6) &&& 15))), (3, .int (((S.2 116 75) + a1) + s0)), (2, .int s0), (0, .ref 116), (1, .int a1)]) d_M_adds_126 rfl ?_
      exact rz_pick (ks := [0, 1, 3, 4]) (l := [(0, .ref 116), (1, .int a1), (3, .int (((S.2 116 75) + a1) + s0)), (4, .int (16 + ((((((Sq1.2 116 75) &&& 15) + (a1 &&& 15)) + s0) + 6) &&& 15)))]) rfl rfl (by decide) rfl ((q1.2 b2).2 b3)
  · skip
    refine rz_pure (pc' := 33) d_M_adds_32 rfl ?_
    refine rz_bipush (v := 64) d_M_adds_33 (by decide) ?_
    refine rz_pure (pc' := 36) d_M_adds_35 rfl ?_
    refine rz_getiv (v := Sq1.2 116 75) d_M_adds_36 f_12_626 rfl rfl rfl ?_
    refine rz_pure (pc' := 40) d_M_adds_39 rfl ?_
    refine rz_ixor d_M_adds_40 ?_
    refine rz_iconst (v := -1) d_M_adds_41 (by decide) ?_
    refine rz_ixor d_M_adds_42 ?_
    refine rz_pure (pc' := 44) d_M_adds_43 rfl ?_
    refine rz_getiv (v := Sq1.2 116 75) d_M_adds_44 f_12_626 rfl rfl rfl ?_
    refine rz_pure (pc' := 48) d_M_adds_47 rfl ?_
    refine rz_ixor d_M_adds_48 ?_
    refine rz_iand d_M_adds_49 ?_
    refine rz_sipush (v := 128) d_M_adds_50 (by decide) ?_
    refine rz_iand d_M_adds_53 ?_
    refine rz_ifeq (tgt := 61) d_M_adds_54 rfl (fun b4 => ?_) (fun b4 => ?_)
    · skip
      refine rz_iconst (v := 0) d_M_adds_61 (by decide) ?_
      exact rz_pick (ks := [0, 3]) (l := [(0, .ref 116), (3, .int (((S.2 116 75) + a1) + s0))]) rfl rfl (by decide) rfl ((q1.1 b2).1 b4)
    · skip
      refine rz_iconst (v := 1) d_M_adds_57 (by decide) ?_
      refine rz_pure (pc' := 62) d_M_adds_58 rfl ?_
      exact rz_pick (ks := [0, 3]) (l := [(0, .ref 116), (3, .int (((S.2 116 75) + a1) + s0))]) rfl rfl (by decide) rfl ((q1.1 b2).2 b4)
theorem p_M_adds_128 {S : rz_S} {K : rz_S → Prop} {a1 : Int32} {a3 : Int32} {a4 : Int32} (w : ((a3 &&& 255 = 0 → rz mM_adds 162 [(0, .ref 116), (1, .int a1), (5, .int ((((S.2 116 75) &&& 240) + (a1 &&& 240)) + a4))] [.int 1, .int 2, .ref 116] S (rz_v K)) ∧ (¬ a3 &&& 255 = 0 → rz mM_adds 162 [(0, .ref 116), (1, .int a1), (5, .int ((((S.2 116 75) &&& 240) + (a1 &&& 240)) + a4))] [.int 0, .int 2, .ref 116] S (rz_v K)))) : rz mM_adds 128 [(0, .ref 116), (1, .int a1), (3, .int a3), (4, .int a4)] [] S (rz_v K) := by
  refine rz_pure (pc' := 129) d_M_adds_128 rfl ?_
  refine rz_getiv (v := S.2 116 75) d_M_adds_129 f_12_626 rfl rfl rfl ?_
  refine rz_sipush (v := 240) d_M_adds_132 (by decide) ?_
  refine rz_iand d_M_adds_135 ?_
  refine rz_pure (pc' := 137) d_M_adds_136 rfl ?_
  refine rz_sipush (v := 240) d_M_adds_137 (by decide) ?_
  refine rz_iand d_M_adds_140 ?_
  refine rz_iadd d_M_adds_141 ?_
  refine rz_pure (pc' := 144) d_M_adds_142 rfl ?_
  refine rz_iadd d_M_adds_144 ?_
  refine rz_pure (pc' := 147) (l' := [(5, .int ((((S.2 116 75) &&& 240) + (a1 &&& 240)) + a4)), (0, .ref 116), (1, .int a1), (3, .int a3), (4, .int a4)]) d_M_adds_145 rfl ?_
  refine rz_pure (pc' := 148) d_M_adds_147 rfl ?_
  refine rz_iconst (v := 2) d_M_adds_148 (by decide) ?_
  refine rz_pure (pc' := 150) d_M_adds_149 rfl ?_
  refine rz_sipush (v := 255) d_M_adds_150 (by decide) ?_
  refine rz_iand d_M_adds_153 ?_
  refine rz_ifne (tgt := 161) d_M_adds_154 rfl (fun b1 => ?_) (fun b1 => ?_)
  · skip
    refine rz_iconst (v := 0) d_M_adds_161 (by decide) ?_
    exact rz_pick (ks := [0, 1, 5]) (l := [(0, .ref 116), (1, .int a1), (5, .int ((((S.2 116 75) &&& 240) + (a1 &&& 240)) + a4))]) rfl rfl (by decide) rfl (w.2 b1)
  · skip
    refine rz_iconst (v := 1) d_M_adds_157 (by decide) ?_
    refine rz_pure (pc' := 162) d_M_adds_158 rfl ?_
    exact rz_pick (ks := [0, 1, 5]) (l := [(0, .ref 116), (1, .int a1), (5, .int ((((S.2 116 75) &&& 240) + (a1 &&& 240)) + a4))]) rfl rfl (by decide) rfl (w.1 b1)
theorem p_M_adds_62 {S : rz_S} {K : rz_S → Prop} {a3 : Int32} {s0 : Int32} {s1 : Int32} (w : rz_ev mM_flag [.ref 116, .int s1, .int s0] S (rz_v (fun Sq1 => ((a3 ≤ 255 → rz mM_adds 79 [(0, .ref 116), (3, .int a3)] [.int 0, .int 1, .ref 116] Sq1 (rz_v K)) ∧ (¬ a3 ≤ 255 → rz mM_adds 79 [(0, .ref 116), (3, .int a3)] [.int 1, .int 1, .ref 116] Sq1 (rz_v K)))))) : rz mM_adds 62 [(0, .ref 116), (3, .int a3)] [.int s0, .int s1, .ref 116] S (rz_v K) := by
  refine rz_callVv (t := [.int s0, .int s1]) d_M_adds_62 w_12_656 rfl rfl rfl w (fun Sq1 q1 => ?_)
  refine rz_pure (pc' := 66) d_M_adds_65 rfl ?_
  refine rz_iconst (v := 1) d_M_adds_66 (by decide) ?_
  refine rz_pure (pc' := 68) d_M_adds_67 rfl ?_
  refine rz_sipush (v := 255) d_M_adds_68 (by decide) ?_
  refine rz_icmple (tgt := 78) d_M_adds_71 rfl (fun b2 => ?_) (fun b2 => ?_)
  · skip
    refine rz_iconst (v := 0) d_M_adds_78 (by decide) ?_
    exact rz_pick (ks := [0, 3]) (l := [(0, .ref 116), (3, .int a3)]) rfl rfl (by decide) rfl (q1.1 b2)
  · skip
    refine rz_iconst (v := 1) d_M_adds_74 (by decide) ?_
    refine rz_pure (pc' := 79) d_M_adds_75 rfl ?_
    exact rz_pick (ks := [0, 3]) (l := [(0, .ref 116), (3, .int a3)]) rfl rfl (by decide) rfl (q1.2 b2)
theorem p_M_adds_162 {S : rz_S} {K : rz_S → Prop} {a1 : Int32} {a5 : Int32} {s0 : Int32} {s1 : Int32} (w : rz_ev mM_flag [.ref 116, .int s1, .int s0] S (rz_v (fun Sq1 => ((a5 &&& 128 = 0 → rz mM_adds 183 [(0, .ref 116), (1, .int a1), (5, .int a5)] [.int 0, .int 128, .ref 116] Sq1 (rz_v K)) ∧ (¬ a5 &&& 128 = 0 → rz mM_adds 183 [(0, .ref 116), (1, .int a1), (5, .int a5)] [.int 1, .int 128, .ref 116] Sq1 (rz_v K)))))) : rz mM_adds 162 [(0, .ref 116), (1, .int a1), (5, .int a5)] [.int s0, .int s1, .ref 116] S (rz_v K) := by
  refine rz_callVv (t := [.int s0, .int s1]) d_M_adds_162 w_12_656 rfl rfl rfl w (fun Sq1 q1 => ?_)
  refine rz_pure (pc' := 166) d_M_adds_165 rfl ?_
  refine rz_sipush (v := 128) d_M_adds_166 (by decide) ?_
  refine rz_pure (pc' := 171) d_M_adds_169 rfl ?_
  refine rz_sipush (v := 128) d_M_adds_171 (by decide) ?_
  refine rz_iand d_M_adds_174 ?_
  refine rz_ifeq (tgt := 182) d_M_adds_175 rfl (fun b2 => ?_) (fun b2 => ?_)
  · skip
    refine rz_iconst (v := 0) d_M_adds_182 (by decide) ?_
    exact rz_pick (ks := [0, 1, 5]) (l := [(0, .ref 116), (1, .int a1), (5, .int a5)]) rfl rfl (by decide) rfl (q1.1 b2)
  · skip
    refine rz_iconst (v := 1) d_M_adds_178 (by decide) ?_
    refine rz_pure (pc' := 183) d_M_adds_179 rfl ?_
    exact rz_pick (ks := [0, 1, 5]) (l := [(0, .ref 116), (1, .int a1), (5, .int a5)]) rfl rfl (by decide) rfl (q1.2 b2)
theorem p_M_adds_79 {S : rz_S} {K : rz_S → Prop} {a3 : Int32} {s0 : Int32} {s1 : Int32} (w : rz_ev mM_flag [.ref 116, .int s1, .int s0] S (rz_v (fun Sq1 => rz_ev mM_marks [.ref 116, .int a3] Sq1 (rz_i (fun xq2 Sq2 => K (rz_uI Sq2 116 75 xq2)))))) : rz mM_adds 79 [(0, .ref 116), (3, .int a3)] [.int s0, .int s1, .ref 116] S (rz_v K) := by
  refine rz_callVv (t := [.int s0, .int s1]) d_M_adds_79 w_12_656 rfl rfl rfl w (fun Sq1 q1 => ?_)
  refine rz_pure (pc' := 83) d_M_adds_82 rfl ?_
  refine rz_pure (pc' := 84) d_M_adds_83 rfl ?_
  refine rz_pure (pc' := 85) d_M_adds_84 rfl ?_
  refine rz_callVi (t := [.int a3]) d_M_adds_85 w_12_669 rfl rfl rfl q1 (fun xq2 Sq2 q2 => ?_)
  refine rz_puti d_M_adds_88 f_12_626 rfl rfl rfl ?_
  exact rz_vretv d_M_adds_91 rfl q2
theorem p_M_adds_183 {S : rz_S} {K : rz_S → Prop} {a1 : Int32} {a5 : Int32} {s0 : Int32} {s1 : Int32} (w : rz_ev mM_flag [.ref 116, .int s1, .int s0] S (rz_v (fun Sq1 => ((((((Sq1.2 116 75) ^^^ a1) ^^^ (-1)) &&& ((Sq1.2 116 75) ^^^ a5)) &&& 128 = 0 → rz mM_adds 217 [(0, .ref 116), (5, .int a5)] [.int 0, .int 64, .ref 116] Sq1 (rz_v K)) ∧ (¬ ((((Sq1.2 116 75) ^^^ a1) ^^^ (-1)) &&& ((Sq1.2 116 75) ^^^ a5)) &&& 128 = 0 → rz mM_adds 217 [(0, .ref 116), (5, .int a5)] [.int 1, .int 64, .ref 116] Sq1 (rz_v K)))))) : rz mM_adds 183 [(0, .ref 116), (1, .int a1), (5, .int a5)] [.int s0, .int s1, .ref 116] S (rz_v K) := by
  refine rz_callVv (t := [.int s0, .int s1]) d_M_adds_183 w_12_656 rfl rfl rfl w (fun Sq1 q1 => ?_)
  refine rz_pure (pc' := 187) d_M_adds_186 rfl ?_
  refine rz_bipush (v := 64) d_M_adds_187 (by decide) ?_
  refine rz_pure (pc' := 190) d_M_adds_189 rfl ?_
  refine rz_getiv (v := Sq1.2 116 75) d_M_adds_190 f_12_626 rfl rfl rfl ?_
  refine rz_pure (pc' := 194) d_M_adds_193 rfl ?_
  refine rz_ixor d_M_adds_194 ?_
  refine rz_iconst (v := -1) d_M_adds_195 (by decide) ?_
  refine rz_ixor d_M_adds_196 ?_
  refine rz_pure (pc' := 198) d_M_adds_197 rfl ?_
  refine rz_getiv (v := Sq1.2 116 75) d_M_adds_198 f_12_626 rfl rfl rfl ?_
  refine rz_pure (pc' := 203) d_M_adds_201 rfl ?_
  refine rz_ixor d_M_adds_203 ?_
  refine rz_iand d_M_adds_204 ?_
  refine rz_sipush (v := 128) d_M_adds_205 (by decide) ?_
  refine rz_iand d_M_adds_208 ?_
  refine rz_ifeq (tgt := 216) d_M_adds_209 rfl (fun b2 => ?_) (fun b2 => ?_)
  · skip
    refine rz_iconst (v := 0) d_M_adds_216 (by decide) ?_
    exact rz_pick (ks := [0, 5]) (l := [(0, .ref 116), (5, .int a5)]) rfl rfl (by decide) rfl (q1.1 b2)
  · skip
    refine rz_iconst (v := 1) d_M_adds_212 (by decide) ?_
    refine rz_pure (pc' := 217) d_M_adds_213 rfl ?_
    exact rz_pick (ks := [0, 5]) (l := [(0, .ref 116), (5, .int a5)]) rfl rfl (by decide) rfl (q1.2 b2)
theorem p_M_adds_217 {S : rz_S} {K : rz_S → Prop} {a5 : Int32} {s0 : Int32} {s1 : Int32} (w : rz_ev mM_flag [.ref 116, .int s1, .int s0] S (rz_v (fun Sq1 => ((a5 ≤ 159 → rz mM_adds 235 [(0, .ref 116), (5, .int a5)] [] Sq1 (rz_v K)) ∧ (¬ a5 ≤ 159 → rz mM_adds 235 [(0, .ref 116), (5, .int (a5 + 96))] [] Sq1 (rz_v K)))))) : rz mM_adds 217 [(0, .ref 116), (5, .int a5)] [.int s0, .int s1, .ref 116] S (rz_v K) := by
  refine rz_callVv (t := [.int s0, .int s1]) d_M_adds_217 w_12_656 rfl rfl rfl w (fun Sq1 q1 => ?_)
  refine rz_pure (pc' := 222) d_M_adds_220 rfl ?_
  refine rz_sipush (v := 159) d_M_adds_222 (by decide) ?_
  refine rz_icmple (tgt := 235) d_M_adds_225 rfl (fun b2 => ?_) (fun b2 => ?_)
  · skip
    exact rz_pick (ks := [0, 5]) (l := [(0, .ref 116), (5, .int a5)]) rfl rfl (by decide) rfl (q1.1 b2)
  · skip
    refine rz_pure (pc' := 230) d_M_adds_228 rfl ?_
    refine rz_bipush (v := 96) d_M_adds_230 (by decide) ?_
    refine rz_iadd d_M_adds_232 ?_
    refine rz_pure (pc' := 235) (l' := [(5, .int (a5 + 96)), (0, .ref 116)]) d_M_adds_233 rfl ?_
    exact rz_pick (ks := [0, 5]) (l := [(0, .ref 116), (5, .int (a5 + 96))]) rfl rfl (by decide) rfl (q1.2 b2)
theorem p_M_adds_235 {S : rz_S} {K : rz_S → Prop} {a5 : Int32} (w : ((a5 ≤ 255 → rz mM_adds 250 [(0, .ref 116), (5, .int a5)] [.int 0, .int 1, .ref 116] S (rz_v K)) ∧ (¬ a5 ≤ 255 → rz mM_adds 250 [(0, .ref 116), (5, .int a5)] [.int 1, .int 1, .ref 116] S (rz_v K)))) : rz mM_adds 235 [(0, .ref 116), (5, .int a5)] [] S (rz_v K) := by
  refine rz_pure (pc' := 236) d_M_adds_235 rfl ?_
  refine rz_iconst (v := 1) d_M_adds_236 (by decide) ?_
  refine rz_pure (pc' := 239) d_M_adds_237 rfl ?_
  refine rz_sipush (v := 255) d_M_adds_239 (by decide) ?_
  refine rz_icmple (tgt := 249) d_M_adds_242 rfl (fun b1 => ?_) (fun b1 => ?_)
  · skip
    refine rz_iconst (v := 0) d_M_adds_249 (by decide) ?_
    exact rz_pick (ks := [0, 5]) (l := [(0, .ref 116), (5, .int a5)]) rfl rfl (by decide) rfl (w.1 b1)
  · skip
    refine rz_iconst (v := 1) d_M_adds_245 (by decide) ?_
    refine rz_pure (pc' := 250) d_M_adds_246 rfl ?_
    exact rz_pick (ks := [0, 5]) (l := [(0, .ref 116), (5, .int a5)]) rfl rfl (by decide) rfl (w.2 b1)
theorem p_M_adds_250 {S : rz_S} {K : rz_S → Prop} {a5 : Int32} {s0 : Int32} {s1 : Int32} (w : rz_ev mM_flag [.ref 116, .int s1, .int s0] S (rz_v (fun Sq1 => K (rz_uI Sq1 116 75 (a5 &&& 255))))) : rz mM_adds 250 [(0, .ref 116), (5, .int a5)] [.int s0, .int s1, .ref 116] S (rz_v K) := by
  refine rz_callVv (t := [.int s0, .int s1]) d_M_adds_250 w_12_656 rfl rfl rfl w (fun Sq1 q1 => ?_)
  refine rz_pure (pc' := 254) d_M_adds_253 rfl ?_
  refine rz_pure (pc' := 256) d_M_adds_254 rfl ?_
  refine rz_sipush (v := 255) d_M_adds_256 (by decide) ?_
  refine rz_iand d_M_adds_259 ?_
  refine rz_puti d_M_adds_260 f_12_626 rfl rfl rfl ?_
  exact rz_vretv d_M_adds_263 rfl q1
theorem d_M_takesOff_0 : decode (rm_code mM_takesOff) 0 = .ok (.aload_n 0, 1) := by decide +kernel
theorem d_M_takesOff_1 : decode (rm_code mM_takesOff) 1 = .ok (.iconst 1, 1) := by decide +kernel
theorem d_M_takesOff_2 : decode (rm_code mM_takesOff) 2 = .ok (.invokevirtual 666, 3) := by decide +kernel
theorem d_M_takesOff_5 : decode (rm_code mM_takesOff) 5 = .ok (.ifCond .eq (7), 3) := by decide +kernel
theorem d_M_takesOff_8 : decode (rm_code mM_takesOff) 8 = .ok (.iconst 1, 1) := by decide +kernel
theorem d_M_takesOff_9 : decode (rm_code mM_takesOff) 9 = .ok (.goto (4), 3) := by decide +kernel
theorem d_M_takesOff_12 : decode (rm_code mM_takesOff) 12 = .ok (.iconst 0, 1) := by decide +kernel
theorem d_M_takesOff_13 : decode (rm_code mM_takesOff) 13 = .ok (.istore_n 2, 1) := by decide +kernel
theorem d_M_takesOff_14 : decode (rm_code mM_takesOff) 14 = .ok (.aload_n 0, 1) := by decide +kernel
theorem d_M_takesOff_15 : decode (rm_code mM_takesOff) 15 = .ok (.getfield 626, 3) := by decide +kernel
theorem d_M_takesOff_18 : decode (rm_code mM_takesOff) 18 = .ok (.iload_n 1, 1) := by decide +kernel
theorem d_M_takesOff_19 : decode (rm_code mM_takesOff) 19 = .ok (.isub, 1) := by decide +kernel
theorem d_M_takesOff_20 : decode (rm_code mM_takesOff) 20 = .ok (.iconst 1, 1) := by decide +kernel
theorem d_M_takesOff_21 : decode (rm_code mM_takesOff) 21 = .ok (.isub, 1) := by decide +kernel
theorem d_M_takesOff_22 : decode (rm_code mM_takesOff) 22 = .ok (.iload_n 2, 1) := by decide +kernel
theorem d_M_takesOff_23 : decode (rm_code mM_takesOff) 23 = .ok (.iadd, 1) := by decide +kernel
theorem d_M_takesOff_24 : decode (rm_code mM_takesOff) 24 = .ok (.istore_n 3, 1) := by decide +kernel
theorem d_M_takesOff_25 : decode (rm_code mM_takesOff) 25 = .ok (.aload_n 0, 1) := by decide +kernel
theorem d_M_takesOff_26 : decode (rm_code mM_takesOff) 26 = .ok (.getfield 626, 3) := by decide +kernel
theorem d_M_takesOff_29 : decode (rm_code mM_takesOff) 29 = .ok (.istore 4, 2) := by decide +kernel
theorem d_M_takesOff_31 : decode (rm_code mM_takesOff) 31 = .ok (.aload_n 0, 1) := by decide +kernel
theorem d_M_takesOff_32 : decode (rm_code mM_takesOff) 32 = .ok (.bipush (64), 2) := by decide +kernel
theorem d_M_takesOff_34 : decode (rm_code mM_takesOff) 34 = .ok (.iload 4, 2) := by decide +kernel
theorem d_M_takesOff_36 : decode (rm_code mM_takesOff) 36 = .ok (.iload_n 1, 1) := by decide +kernel
theorem d_M_takesOff_37 : decode (rm_code mM_takesOff) 37 = .ok (.ixor, 1) := by decide +kernel
theorem d_M_takesOff_38 : decode (rm_code mM_takesOff) 38 = .ok (.iload 4, 2) := by decide +kernel
theorem d_M_takesOff_40 : decode (rm_code mM_takesOff) 40 = .ok (.iload_n 3, 1) := by decide +kernel
theorem d_M_takesOff_41 : decode (rm_code mM_takesOff) 41 = .ok (.ixor, 1) := by decide +kernel
theorem d_M_takesOff_42 : decode (rm_code mM_takesOff) 42 = .ok (.iand, 1) := by decide +kernel
theorem d_M_takesOff_43 : decode (rm_code mM_takesOff) 43 = .ok (.sipush (128), 3) := by decide +kernel
theorem d_M_takesOff_46 : decode (rm_code mM_takesOff) 46 = .ok (.iand, 1) := by decide +kernel
theorem d_M_takesOff_47 : decode (rm_code mM_takesOff) 47 = .ok (.ifCond .eq (7), 3) := by decide +kernel
theorem d_M_takesOff_50 : decode (rm_code mM_takesOff) 50 = .ok (.iconst 1, 1) := by decide +kernel
theorem d_M_takesOff_51 : decode (rm_code mM_takesOff) 51 = .ok (.goto (4), 3) := by decide +kernel
theorem d_M_takesOff_54 : decode (rm_code mM_takesOff) 54 = .ok (.iconst 0, 1) := by decide +kernel
theorem d_M_takesOff_55 : decode (rm_code mM_takesOff) 55 = .ok (.invokevirtual 656, 3) := by decide +kernel
theorem d_M_takesOff_58 : decode (rm_code mM_takesOff) 58 = .ok (.aload_n 0, 1) := by decide +kernel
theorem d_M_takesOff_59 : decode (rm_code mM_takesOff) 59 = .ok (.iconst 1, 1) := by decide +kernel
theorem d_M_takesOff_60 : decode (rm_code mM_takesOff) 60 = .ok (.iload_n 3, 1) := by decide +kernel
theorem d_M_takesOff_61 : decode (rm_code mM_takesOff) 61 = .ok (.ifCond .lt (7), 3) := by decide +kernel
theorem d_M_takesOff_64 : decode (rm_code mM_takesOff) 64 = .ok (.iconst 1, 1) := by decide +kernel
theorem d_M_takesOff_65 : decode (rm_code mM_takesOff) 65 = .ok (.goto (4), 3) := by decide +kernel
theorem d_M_takesOff_68 : decode (rm_code mM_takesOff) 68 = .ok (.iconst 0, 1) := by decide +kernel
theorem d_M_takesOff_69 : decode (rm_code mM_takesOff) 69 = .ok (.invokevirtual 656, 3) := by decide +kernel
theorem d_M_takesOff_72 : decode (rm_code mM_takesOff) 72 = .ok (.aload_n 0, 1) := by decide +kernel
theorem d_M_takesOff_73 : decode (rm_code mM_takesOff) 73 = .ok (.iload_n 3, 1) := by decide +kernel
theorem d_M_takesOff_74 : decode (rm_code mM_takesOff) 74 = .ok (.invokevirtual 669, 3) := by decide +kernel
theorem d_M_takesOff_77 : decode (rm_code mM_takesOff) 77 = .ok (.istore 5, 2) := by decide +kernel
theorem d_M_takesOff_79 : decode (rm_code mM_takesOff) 79 = .ok (.aload_n 0, 1) := by decide +kernel
theorem d_M_takesOff_80 : decode (rm_code mM_takesOff) 80 = .ok (.bipush (8), 2) := by decide +kernel
theorem d_M_takesOff_82 : decode (rm_code mM_takesOff) 82 = .ok (.invokevirtual 666, 3) := by decide +kernel
theorem d_M_takesOff_85 : decode (rm_code mM_takesOff) 85 = .ok (.ifCond .eq (74), 3) := by decide +kernel
theorem d_M_takesOff_88 : decode (rm_code mM_takesOff) 88 = .ok (.iload 4, 2) := by decide +kernel
theorem d_M_takesOff_90 : decode (rm_code mM_takesOff) 90 = .ok (.bipush (15), 2) := by decide +kernel
theorem d_M_takesOff_92 : decode (rm_code mM_takesOff) 92 = .ok (.iand, 1) := by decide +kernel
theorem d_M_takesOff_93 : decode (rm_code mM_takesOff) 93 = .ok (.iload_n 1, 1) := by decide +kernel
theorem d_M_takesOff_94 : decode (rm_code mM_takesOff) 94 = .ok (.bipush (15), 2) := by decide +kernel
theorem d_M_takesOff_96 : decode (rm_code mM_takesOff) 96 = .ok (.iand, 1) := by decide +kernel
theorem d_M_takesOff_97 : decode (rm_code mM_takesOff) 97 = .ok (.isub, 1) := by decide +kernel
theorem d_M_takesOff_98 : decode (rm_code mM_takesOff) 98 = .ok (.iconst 1, 1) := by decide +kernel
theorem d_M_takesOff_99 : decode (rm_code mM_takesOff) 99 = .ok (.isub, 1) := by decide +kernel
theorem d_M_takesOff_100 : decode (rm_code mM_takesOff) 100 = .ok (.iload_n 2, 1) := by decide +kernel
theorem d_M_takesOff_101 : decode (rm_code mM_takesOff) 101 = .ok (.iadd, 1) := by decide +kernel
theorem d_M_takesOff_102 : decode (rm_code mM_takesOff) 102 = .ok (.istore 6, 2) := by decide +kernel
theorem d_M_takesOff_104 : decode (rm_code mM_takesOff) 104 = .ok (.iload 6, 2) := by decide +kernel
theorem d_M_takesOff_106 : decode (rm_code mM_takesOff) 106 = .ok (.ifCond .ge (16), 3) := by decide +kernel
theorem d_M_takesOff_109 : decode (rm_code mM_takesOff) 109 = .ok (.iload 6, 2) := by decide +kernel
theorem d_M_takesOff_111 : decode (rm_code mM_takesOff) 111 = .ok (.bipush (6), 2) := by decide +kernel
theorem d_M_takesOff_113 : decode (rm_code mM_takesOff) 113 = .ok (.isub, 1) := by decide +kernel
theorem d_M_takesOff_114 : decode (rm_code mM_takesOff) 114 = .ok (.bipush (15), 2) := by decide +kernel
theorem d_M_takesOff_116 : decode (rm_code mM_takesOff) 116 = .ok (.iand, 1) := by decide +kernel
theorem d_M_takesOff_117 : decode (rm_code mM_takesOff) 117 = .ok (.bipush (16), 2) := by decide +kernel
theorem d_M_takesOff_119 : decode (rm_code mM_takesOff) 119 = .ok (.isub, 1) := by decide +kernel
theorem d_M_takesOff_120 : decode (rm_code mM_takesOff) 120 = .ok (.istore 6, 2) := by decide +kernel
theorem d_M_takesOff_122 : decode (rm_code mM_takesOff) 122 = .ok (.iload 4, 2) := by decide +kernel
theorem d_M_takesOff_124 : decode (rm_code mM_takesOff) 124 = .ok (.sipush (240), 3) := by decide +kernel
theorem d_M_takesOff_127 : decode (rm_code mM_takesOff) 127 = .ok (.iand, 1) := by decide +kernel
theorem d_M_takesOff_128 : decode (rm_code mM_takesOff) 128 = .ok (.iload_n 1, 1) := by decide +kernel
theorem d_M_takesOff_129 : decode (rm_code mM_takesOff) 129 = .ok (.sipush (240), 3) := by decide +kernel
theorem d_M_takesOff_132 : decode (rm_code mM_takesOff) 132 = .ok (.iand, 1) := by decide +kernel
theorem d_M_takesOff_133 : decode (rm_code mM_takesOff) 133 = .ok (.isub, 1) := by decide +kernel
theorem d_M_takesOff_134 : decode (rm_code mM_takesOff) 134 = .ok (.iload 6, 2) := by decide +kernel
theorem d_M_takesOff_136 : decode (rm_code mM_takesOff) 136 = .ok (.iadd, 1) := by decide +kernel
theorem d_M_takesOff_137 : decode (rm_code mM_takesOff) 137 = .ok (.istore 7, 2) := by decide +kernel
theorem d_M_takesOff_139 : decode (rm_code mM_takesOff) 139 = .ok (.iload 7, 2) := by decide +kernel
theorem d_M_takesOff_141 : decode (rm_code mM_takesOff) 141 = .ok (.ifCond .ge (10), 3) := by decide +kernel
theorem d_M_takesOff_144 : decode (rm_code mM_takesOff) 144 = .ok (.iload 7, 2) := by decide +kernel
theorem d_M_takesOff_146 : decode (rm_code mM_takesOff) 146 = .ok (.bipush (96), 2) := by decide +kernel
theorem d_M_takesOff_148 : decode (rm_code mM_takesOff) 148 = .ok (.isub, 1) := by decide +kernel
theorem d_M_takesOff_149 : decode (rm_code mM_takesOff) 149 = .ok (.istore 7, 2) := by decide +kernel
theorem d_M_takesOff_151 : decode (rm_code mM_takesOff) 151 = .ok (.iload 7, 2) := by decide +kernel
theorem d_M_takesOff_153 : decode (rm_code mM_takesOff) 153 = .ok (.sipush (255), 3) := by decide +kernel
theorem d_M_takesOff_156 : decode (rm_code mM_takesOff) 156 = .ok (.iand, 1) := by decide +kernel
theorem d_M_takesOff_157 : decode (rm_code mM_takesOff) 157 = .ok (.istore 5, 2) := by decide +kernel
theorem d_M_takesOff_159 : decode (rm_code mM_takesOff) 159 = .ok (.aload_n 0, 1) := by decide +kernel
theorem d_M_takesOff_160 : decode (rm_code mM_takesOff) 160 = .ok (.iload 5, 2) := by decide +kernel
theorem d_M_takesOff_162 : decode (rm_code mM_takesOff) 162 = .ok (.putfield 626, 3) := by decide +kernel
theorem d_M_takesOff_165 : decode (rm_code mM_takesOff) 165 = .ok (.return_, 1) := by decide +kernel
theorem p_M_takesOff_0 {S : rz_S} {K : rz_S → Prop} {a1 : Int32} (w : rz_ev mM_is [.ref 116, .int 1] S (rz_i (fun xq1 Sq1 => ((xq1 = 0 → rz mM_takesOff 13 [(0, .ref 116), (1, .int a1)] [.int 0] Sq1 (rz_v K)) ∧ (¬ xq1 = 0 → rz mM_takesOff 13 [(0, .ref 116), (1, .int a1)] [.int 1] Sq1 (rz_v K)))))) : rz mM_takesOff 0 [(0, .ref 116), (1, .int a1)] [] S (rz_v K) := by
  refine rz_pure (pc' := 1) d_M_takesOff_0 rfl ?_
  refine rz_iconst (v := 1) d_M_takesOff_1 (by decide) ?_
  refine rz_callVi (t := [.int 1]) d_M_takesOff_2 w_12_666 rfl rfl rfl w (fun xq1 Sq1 q1 => ?_)
  refine rz_ifeq (tgt := 12) d_M_takesOff_5 rfl (fun b2 => ?_) (fun b2 => ?_)
  · skip
    refine rz_iconst (v := 0) d_M_takesOff_12 (by decide) ?_
    exact rz_pick (ks := [0, 1]) (l := [(0, .ref 116), (1, .int a1)]) rfl rfl (by decide) rfl (q1.1 b2)
  · skip
    refine rz_iconst (v := 1) d_M_takesOff_8 (by decide) ?_
    refine rz_pure (pc' := 13) d_M_takesOff_9 rfl ?_
    exact rz_pick (ks := [0, 1]) (l := [(0, .ref 116), (1, .int a1)]) rfl rfl (by decide) rfl (q1.2 b2)
theorem p_M_takesOff_13 {S : rz_S} {K : rz_S → Prop} {a1 : Int32} {s0 : Int32} (w : (((((S.2 116 75) ^^^ a1) &&& ((S.2 116 75) ^^^ ((((S.2 116 75) - a1) - 1) + s0))) &&& 128 = 0 → rz mM_takesOff 55 [(0, .ref 116), (1, .int a1), (2, .int s0), (3, .int ((((S.2 116 75) - a1) - 1) + s0)), (4, .int (S.2 116 75))] [.int 0, .int 64, .ref 116] S (rz_v K)) ∧ (¬ (((S.2 116 75) ^^^ a1) &&& ((S.2 116 75) ^^^ ((((S.2 116 75) - a1) - 1) + s0))) &&& 128 = 0 → rz mM_takesOff 55 [(0, .ref 116), (1, .int a1), (2, .int s0), (3, .int ((((S.2 116 75) - a1) - 1) + s0)), (4, .int (S.2 116 75))] [.int 1, .int 64, .ref 116] S (rz_v K)))) : rz mM_takesOff 13 [(0, .ref 116), (1, .int a1)] [.int s0] S (rz_v K) := by
  refine rz_pure (pc' := 14) (l' := [(2, .int s0), (0, .ref 116), (1, .int a1)]) d_M_takesOff_13 rfl ?_
  refine rz_pure (pc' := 15) d_M_takesOff_14 rfl ?_
  refine rz_getiv (v := S.2 116 75) d_M_takesOff_15 f_12_626 rfl rfl rfl ?_
  refine rz_pure (pc' := 19) d_M_takesOff_18 rfl ?_
  refine rz_isub d_M_takesOff_19 ?_
  refine rz_iconst (v := 1) d_M_takesOff_20 (by decide) ?_
  refine rz_isub d_M_takesOff_21 ?_
  refine rz_pure (pc' := 23) d_M_takesOff_22 rfl ?_
  refine rz_iadd d_M_takesOff_23 ?_
  refine rz_pure (pc' := 25) (l' := [(3, .int ((((S.2 116 75) - a1) - 1) + s0)), (2, .int s0), (0, .ref 116), (1, .int a1)]) d_M_takesOff_24 rfl ?_
  refine rz_pure (pc' := 26) d_M_takesOff_25 rfl ?_
  refine rz_getiv (v := S.2 116 75) d_M_takesOff_26 f_12_626 rfl rfl rfl ?_
  refine rz_pure (pc' := 31) (l' := [(4, .int (S.2 116 75)), (3, .int ((((S.2 116 75) - a1) - 1) + s0)), (2, .int s0), (0, .ref 116), (1, .int a1)]) d_M_takesOff_29 rfl ?_
  refine rz_pure (pc' := 32) d_M_takesOff_31 rfl ?_
  refine rz_bipush (v := 64) d_M_takesOff_32 (by decide) ?_
  refine rz_pure (pc' := 36) d_M_takesOff_34 rfl ?_
  refine rz_pure (pc' := 37) d_M_takesOff_36 rfl ?_
  refine rz_ixor d_M_takesOff_37 ?_
  refine rz_pure (pc' := 40) d_M_takesOff_38 rfl ?_
  refine rz_pure (pc' := 41) d_M_takesOff_40 rfl ?_
  refine rz_ixor d_M_takesOff_41 ?_
  refine rz_iand d_M_takesOff_42 ?_
  refine rz_sipush (v := 128) d_M_takesOff_43 (by decide) ?_
  refine rz_iand d_M_takesOff_46 ?_
  refine rz_ifeq (tgt := 54) d_M_takesOff_47 rfl (fun b1 => ?_) (fun b1 => ?_)
  · skip
    refine rz_iconst (v := 0) d_M_takesOff_54 (by decide) ?_
    exact rz_pick (ks := [0, 1, 2, 3, 4]) (l := [(0, .ref 116), (1, .int a1), (2, .int s0), (3, .int ((((S.2 116 75) - a1) - 1) + s0)), (4, .int (S.2 116 75))]) rfl rfl (by decide) rfl (w.1 b1)
  · skip
    refine rz_iconst (v := 1) d_M_takesOff_50 (by decide) ?_
    refine rz_pure (pc' := 55) d_M_takesOff_51 rfl ?_
    exact rz_pick (ks := [0, 1, 2, 3, 4]) (l := [(0, .ref 116), (1, .int a1), (2, .int s0), (3, .int ((((S.2 116 75) - a1) - 1) + s0)), (4, .int (S.2 116 75))]) rfl rfl (by decide) rfl (w.2 b1)
theorem p_M_takesOff_55 {S : rz_S} {K : rz_S → Prop} {a1 : Int32} {a2 : Int32} {a3 : Int32} {a4 : Int32} {s0 : Int32} {s1 : Int32} (w : rz_ev mM_flag [.ref 116, .int s1, .int s0] S (rz_v (fun Sq1 => ((a3 < 0 → rz mM_takesOff 69 [(0, .ref 116), (1, .int a1), (2, .int a2), (3, .int a3), (4, .int a4)] [.int 0, .int 1, .ref 116] Sq1 (rz_v K)) ∧ (¬ a3 < 0 → rz mM_takesOff 69 [(0, .ref 116), (1, .int a1), (2, .int a2), (3, .int a3), (4, .int a4)] [.int 1, .int 1, .ref 116] Sq1 (rz_v K)))))) : rz mM_takesOff 55 [(0, .ref 116), (1, .int a1), (2, .int a2), (3, .int a3), (4, .int a4)] [.int s0, .int s1, .ref 116] S (rz_v K) := by
  refine rz_callVv (t := [.int s0, .int s1]) d_M_takesOff_55 w_12_656 rfl rfl rfl w (fun Sq1 q1 => ?_)
  refine rz_pure (pc' := 59) d_M_takesOff_58 rfl ?_
  refine rz_iconst (v := 1) d_M_takesOff_59 (by decide) ?_
  refine rz_pure (pc' := 61) d_M_takesOff_60 rfl ?_
  refine rz_iflt (tgt := 68) d_M_takesOff_61 rfl (fun b2 => ?_) (fun b2 => ?_)
  · skip
    refine rz_iconst (v := 0) d_M_takesOff_68 (by decide) ?_
    exact rz_pick (ks := [0, 1, 2, 3, 4]) (l := [(0, .ref 116), (1, .int a1), (2, .int a2), (3, .int a3), (4, .int a4)]) rfl rfl (by decide) rfl (q1.1 b2)
  · skip
    refine rz_iconst (v := 1) d_M_takesOff_64 (by decide) ?_
    refine rz_pure (pc' := 69) d_M_takesOff_65 rfl ?_
    exact rz_pick (ks := [0, 1, 2, 3, 4]) (l := [(0, .ref 116), (1, .int a1), (2, .int a2), (3, .int a3), (4, .int a4)]) rfl rfl (by decide) rfl (q1.2 b2)
theorem p_M_takesOff_69 {S : rz_S} {K : rz_S → Prop} {a1 : Int32} {a2 : Int32} {a3 : Int32} {a4 : Int32} {s0 : Int32} {s1 : Int32} (w : rz_ev mM_flag [.ref 116, .int s1, .int s0] S (rz_v (fun Sq1 => rz_ev mM_marks [.ref 116, .int a3] Sq1 (rz_i (fun xq2 Sq2 => rz_ev mM_is [.ref 116, .int 8] Sq2 (rz_i (fun xq3 Sq3 => ((xq3 = 0 → K (rz_uI Sq3 116 75 xq2)) ∧ (¬ xq3 = 0 → ((0 ≤ (((a4 &&& 15) - (a1 &&& 15)) - 1) + a2 → rz mM_takesOff 122 [(0, .ref 116), (1, .int a1), (4, .int a4), (6, .int ((((a4 &&& 15) - (a1 &&& 15)) - 1) + a2))] [] Sq3 (rz_v K)) ∧ (¬ 0 ≤ (((a4 &&& 15) - (a1 &&& 15)) - 1) + a2 → rz mM_takesOff 122 [(0, .ref 116), (1, .int a1), (4, .int a4), (6, .int (((((((a4 &&& 15) - (a1 &&& 15)) - 1) + a2) - 6) &&& 15) - 16))] [] Sq3 (rz_v K)))))))))))) : rz mM_takesOff 69 [(0, .ref 116), (1, .int a1), (2, .int a2), (3, .int a3), (4, .int a4)] [.int s0, .int s1, .ref 116] S (rz_v K) := by
  refine rz_callVv (t := [.int s0, .int s1]) d_M_takesOff_69 w_12_656 rfl rfl rfl w (fun Sq1 q1 => ?_)
  refine rz_pure (pc' := 73) d_M_takesOff_72 rfl ?_
  refine rz_pure (pc' := 74) d_M_takesOff_73 rfl ?_
  refine rz_callVi (t := [.int a3]) d_M_takesOff_74 w_12_669 rfl rfl rfl q1 (fun xq2 Sq2 q2 => ?_)
  refine rz_pure (pc' := 79) (l' := [(5, .int xq2), (0, .ref 116), (1, .int a1), (2, .int a2), (3, .int a3), (4, .int a4)]) d_M_takesOff_77 rfl ?_
  refine rz_pure (pc' := 80) d_M_takesOff_79 rfl ?_
  refine rz_bipush (v := 8) d_M_takesOff_80 (by decide) ?_
  refine rz_callVi (t := [.int 8]) d_M_takesOff_82 w_12_666 rfl rfl rfl q2 (fun xq3 Sq3 q3 => ?_)
  refine rz_ifeq (tgt := 159) d_M_takesOff_85 rfl (fun b4 => ?_) (fun b4 => ?_)
  · skip
    refine rz_pure (pc' := 160) d_M_takesOff_159 rfl ?_
    refine rz_pure (pc' := 162) d_M_takesOff_160 rfl ?_
    refine rz_puti d_M_takesOff_162 f_12_626 rfl rfl rfl ?_
    exact rz_vretv d_M_takesOff_165 rfl (q3.1 b4)
  · skip
    refine rz_pure (pc' := 90) d_M_takesOff_88 rfl ?_
    refine rz_bipush (v := 15) d_M_takesOff_90 (by decide) ?_
    refine rz_iand d_M_takesOff_92 ?_
    refine rz_pure (pc' := 94) d_M_takesOff_93 rfl ?_
    refine rz_bipush (v := 15) d_M_takesOff_94 (by decide) ?_
    refine rz_iand d_M_takesOff_96 ?_
    refine rz_isub d_M_takesOff_97 ?_
    refine rz_iconst (v := 1) d_M_takesOff_98 (by decide) ?_
    refine rz_isub d_M_takesOff_99 ?_
    refine rz_pure (pc' := 101) d_M_takesOff_100 rfl ?_
    refine rz_iadd d_M_takesOff_101 ?_
    refine rz_pure (pc' := 104) (l' := [(6, .int ((((a4 &&& 15) - (a1 &&& 15)) - 1) + a2)), (5, .int xq2), (0, .ref 116), (1, .int a1), (2, .int a2), (3, .int a3), (4, .int a4)]) d_M_takesOff_102 rfl ?_
    refine rz_pure (pc' := 106) d_M_takesOff_104 rfl ?_
    refine rz_ifge (tgt := 122) d_M_takesOff_106 rfl (fun b5 => ?_) (fun b5 => ?_)
    · skip
      exact rz_pick (ks := [0, 1, 4, 6]) (l := [(0, .ref 116), (1, .int a1), (4, .int a4), (6, .int ((((a4 &&& 15) - (a1 &&& 15)) - 1) + a2))]) rfl rfl (by decide) rfl ((q3.2 b4).1 b5)
    · skip
      refine rz_pure (pc' := 111) d_M_takesOff_109 rfl ?_
      refine rz_bipush (v := 6) d_M_takesOff_111 (by decide) ?_
      refine rz_isub d_M_takesOff_113 ?_
      refine rz_bipush (v := 15) d_M_takesOff_114 (by decide) ?_
      refine rz_iand d_M_takesOff_116 ?_
      refine rz_bipush (v := 16) d_M_takesOff_117 (by decide) ?_
      refine rz_isub d_M_takesOff_119 ?_
      refine rz_pure (pc' := 122) (l' := [(6, .int (((((((a4 &&& 15) - (a1 &&& 15)) - 1) + a2) - 6) &&& 15) - 16)), (5, .int xq2), (0, .ref 116), (1, .int a1), (2, .int a2), (3, .int a3), (4, .int a4)]) d_M_takesOff_120 rfl ?_
      exact rz_pick (ks := [0, 1, 4, 6]) (l := [(0, .ref 116), (1, .int a1), (4, .int a4), (6, .int (((((((a4 &&& 15) - (a1 &&& 15)) - 1) + a2) - 6) &&& 15) - 16))]) rfl rfl (by decide) rfl ((q3.2 b4).2 b5)
theorem p_M_takesOff_122 {S : rz_S} {K : rz_S → Prop} {a1 : Int32} {a4 : Int32} {a6 : Int32} (w : ((0 ≤ ((a4 &&& 240) - (a1 &&& 240)) + a6 → K (rz_uI S 116 75 ((((a4 &&& 240) - (a1 &&& 240)) + a6) &&& 255))) ∧ (¬ 0 ≤ ((a4 &&& 240) - (a1 &&& 240)) + a6 → K (rz_uI S 116 75 (((((a4 &&& 240) - (a1 &&& 240)) + a6) - 96) &&& 255))))) : rz mM_takesOff 122 [(0, .ref 116), (1, .int a1), (4, .int a4), (6, .int a6)] [] S (rz_v K) := by
  refine rz_pure (pc' := 124) d_M_takesOff_122 rfl ?_
  refine rz_sipush (v := 240) d_M_takesOff_124 (by decide) ?_
  refine rz_iand d_M_takesOff_127 ?_
  refine rz_pure (pc' := 129) d_M_takesOff_128 rfl ?_
  refine rz_sipush (v := 240) d_M_takesOff_129 (by decide) ?_
  refine rz_iand d_M_takesOff_132 ?_
  refine rz_isub d_M_takesOff_133 ?_
  refine rz_pure (pc' := 136) d_M_takesOff_134 rfl ?_
  refine rz_iadd d_M_takesOff_136 ?_
  refine rz_pure (pc' := 139) (l' := [(7, .int (((a4 &&& 240) - (a1 &&& 240)) + a6)), (0, .ref 116), (1, .int a1), (4, .int a4), (6, .int a6)]) d_M_takesOff_137 rfl ?_
  refine rz_pure (pc' := 141) d_M_takesOff_139 rfl ?_
  refine rz_ifge (tgt := 151) d_M_takesOff_141 rfl (fun b1 => ?_) (fun b1 => ?_)
  · skip
    refine rz_pure (pc' := 153) d_M_takesOff_151 rfl ?_
    refine rz_sipush (v := 255) d_M_takesOff_153 (by decide) ?_
    refine rz_iand d_M_takesOff_156 ?_
    refine rz_pure (pc' := 159) (l' := [(5, .int ((((a4 &&& 240) - (a1 &&& 240)) + a6) &&& 255)), (7, .int (((a4 &&& 240) - (a1 &&& 240)) + a6)), (0, .ref 116), (1, .int a1), (4, .int a4), (6, .int a6)]) d_M_takesOff_157 rfl ?_
    refine rz_pure (pc' := 160) d_M_takesOff_159 rfl ?_
    refine rz_pure (pc' := 162) d_M_takesOff_160 rfl ?_
    refine rz_puti d_M_takesOff_162 f_12_626 rfl rfl rfl ?_
    exact rz_vretv d_M_takesOff_165 rfl (w.1 b1)
  · skip
    refine rz_pure (pc' := 146) d_M_takesOff_144 rfl ?_
    refine rz_bipush (v := 96) d_M_takesOff_146 (by decide) ?_
    refine rz_isub d_M_takesOff_148 ?_
    refine rz_pure (pc' := 151) (l' := [(7, .int ((((a4 &&& 240) - (a1 &&& 240)) + a6) - 96)), (0, .ref 116), (1, .int a1), (4, .int a4), (6, .int a6)]) d_M_takesOff_149 rfl ?_
    refine rz_pure (pc' := 153) d_M_takesOff_151 rfl ?_
    refine rz_sipush (v := 255) d_M_takesOff_153 (by decide) ?_
    refine rz_iand d_M_takesOff_156 ?_
    refine rz_pure (pc' := 159) (l' := [(5, .int (((((a4 &&& 240) - (a1 &&& 240)) + a6) - 96) &&& 255)), (7, .int ((((a4 &&& 240) - (a1 &&& 240)) + a6) - 96)), (0, .ref 116), (1, .int a1), (4, .int a4), (6, .int a6)]) d_M_takesOff_157 rfl ?_
    refine rz_pure (pc' := 160) d_M_takesOff_159 rfl ?_
    refine rz_pure (pc' := 162) d_M_takesOff_160 rfl ?_
    refine rz_puti d_M_takesOff_162 f_12_626 rfl rfl rfl ?_
    exact rz_vretv d_M_takesOff_165 rfl (w.2 b1)
theorem d_M_compares_0 : decode (rm_code mM_compares) 0 = .ok (.aload_n 0, 1) := by decide +kernel
theorem d_M_compares_1 : decode (rm_code mM_compares) 1 = .ok (.iconst 1, 1) := by decide +kernel
theorem d_M_compares_2 : decode (rm_code mM_compares) 2 = .ok (.iload_n 1, 1) := by decide +kernel
theorem d_M_compares_3 : decode (rm_code mM_compares) 3 = .ok (.iload_n 2, 1) := by decide +kernel
theorem d_M_compares_4 : decode (rm_code mM_compares) 4 = .ok (.if_icmp .lt (7), 3) := by decide +kernel
theorem d_M_compares_7 : decode (rm_code mM_compares) 7 = .ok (.iconst 1, 1) := by decide +kernel
theorem d_M_compares_8 : decode (rm_code mM_compares) 8 = .ok (.goto (4), 3) := by decide +kernel
theorem d_M_compares_11 : decode (rm_code mM_compares) 11 = .ok (.iconst 0, 1) := by decide +kernel
theorem d_M_compares_12 : decode (rm_code mM_compares) 12 = .ok (.invokevirtual 656, 3) := by decide +kernel
theorem d_M_compares_15 : decode (rm_code mM_compares) 15 = .ok (.aload_n 0, 1) := by decide +kernel
theorem d_M_compares_16 : decode (rm_code mM_compares) 16 = .ok (.iload_n 1, 1) := by decide +kernel
theorem d_M_compares_17 : decode (rm_code mM_compares) 17 = .ok (.iload_n 2, 1) := by decide +kernel
theorem d_M_compares_18 : decode (rm_code mM_compares) 18 = .ok (.isub, 1) := by decide +kernel
theorem d_M_compares_19 : decode (rm_code mM_compares) 19 = .ok (.invokevirtual 669, 3) := by decide +kernel
theorem d_M_compares_22 : decode (rm_code mM_compares) 22 = .ok (.pop, 1) := by decide +kernel
theorem d_M_compares_23 : decode (rm_code mM_compares) 23 = .ok (.return_, 1) := by decide +kernel
theorem p_M_compares_0 {S : rz_S} {K : rz_S → Prop} {a1 : Int32} {a2 : Int32} (w : ((a1 < a2 → rz mM_compares 12 [(0, .ref 116), (1, .int a1), (2, .int a2)] [.int 0, .int 1, .ref 116] S (rz_v K)) ∧ (¬ a1 < a2 → rz mM_compares 12 [(0, .ref 116), (1, .int a1), (2, .int a2)] [.int 1, .int 1, .ref 116] S (rz_v K)))) : rz mM_compares 0 [(0, .ref 116), (1, .int a1), (2, .int a2)] [] S (rz_v K) := by
  refine rz_pure (pc' := 1) d_M_compares_0 rfl ?_
  refine rz_iconst (v := 1) d_M_compares_1 (by decide) ?_
  refine rz_pure (pc' := 3) d_M_compares_2 rfl ?_
  refine rz_pure (pc' := 4) d_M_compares_3 rfl ?_
  refine rz_icmplt (tgt := 11) d_M_compares_4 rfl (fun b1 => ?_) (fun b1 => ?_)
  · skip
    refine rz_iconst (v := 0) d_M_compares_11 (by decide) ?_
    exact rz_pick (ks := [0, 1, 2]) (l := [(0, .ref 116), (1, .int a1), (2, .int a2)]) rfl rfl (by decide) rfl (w.1 b1)
  · skip
    refine rz_iconst (v := 1) d_M_compares_7 (by decide) ?_
    refine rz_pure (pc' := 12) d_M_compares_8 rfl ?_
    exact rz_pick (ks := [0, 1, 2]) (l := [(0, .ref 116), (1, .int a1), (2, .int a2)]) rfl rfl (by decide) rfl (w.2 b1)
theorem p_M_compares_12 {S : rz_S} {K : rz_S → Prop} {a1 : Int32} {a2 : Int32} {s0 : Int32} {s1 : Int32} (w : rz_ev mM_flag [.ref 116, .int s1, .int s0] S (rz_v (fun Sq1 => rz_ev mM_marks [.ref 116, .int (a1 - a2)] Sq1 (rz_i (fun xq2 Sq2 => K Sq2))))) : rz mM_compares 12 [(0, .ref 116), (1, .int a1), (2, .int a2)] [.int s0, .int s1, .ref 116] S (rz_v K) := by
  refine rz_callVv (t := [.int s0, .int s1]) d_M_compares_12 w_12_656 rfl rfl rfl w (fun Sq1 q1 => ?_)
  refine rz_pure (pc' := 16) d_M_compares_15 rfl ?_
  refine rz_pure (pc' := 17) d_M_compares_16 rfl ?_
  refine rz_pure (pc' := 18) d_M_compares_17 rfl ?_
  refine rz_isub d_M_compares_18 ?_
  refine rz_callVi (t := [.int (a1 - a2)]) d_M_compares_19 w_12_669 rfl rfl rfl q1 (fun xq2 Sq2 q2 => ?_)
  refine rz_pure (pc' := 23) d_M_compares_22 rfl ?_
  exact rz_vretv d_M_compares_23 rfl q2
theorem d_M_works_0 : decode (rm_code mM_works) 0 = .ok (.iload_n 1, 1) := by decide +kernel
theorem d_M_works_1 : decode (rm_code mM_works) 1 = .ok (.invokestatic 672, 3) := by decide +kernel
theorem d_M_works_4 : decode (rm_code mM_works) 4 = .ok (.istore_n 2, 1) := by decide +kernel
theorem d_M_works_5 : decode (rm_code mM_works) 5 = .ok (.iload_n 1, 1) := by decide +kernel
theorem d_M_works_6 : decode (rm_code mM_works) 6 = .ok (.iconst 5, 1) := by decide +kernel
theorem d_M_works_7 : decode (rm_code mM_works) 7 = .ok (.ishr, 1) := by decide +kernel
theorem d_M_works_8 : decode (rm_code mM_works) 8 = .ok (.istore_n 3, 1) := by decide +kernel
theorem d_M_works_9 : decode (rm_code mM_works) 9 = .ok (.iload_n 3, 1) := by decide +kernel
theorem d_M_works_10 : decode (rm_code mM_works) 10 = .ok (.iconst 4, 1) := by decide +kernel
theorem d_M_works_11 : decode (rm_code mM_works) 11 = .ok (.if_icmp .ne (9), 3) := by decide +kernel
theorem d_M_works_14 : decode (rm_code mM_works) 14 = .ok (.iload_n 2, 1) := by decide +kernel
theorem d_M_works_15 : decode (rm_code mM_works) 15 = .ok (.ifCond .ne (5), 3) := by decide +kernel
theorem d_M_works_18 : decode (rm_code mM_works) 18 = .ok (.iconst 0, 1) := by decide +kernel
theorem d_M_works_19 : decode (rm_code mM_works) 19 = .ok (.ireturn, 1) := by decide +kernel
theorem d_M_works_20 : decode (rm_code mM_works) 20 = .ok (.aload_n 0, 1) := by decide +kernel
theorem d_M_works_21 : decode (rm_code mM_works) 21 = .ok (.iload_n 2, 1) := by decide +kernel
theorem d_M_works_22 : decode (rm_code mM_works) 22 = .ok (.invokevirtual 675, 3) := by decide +kernel
theorem d_M_works_25 : decode (rm_code mM_works) 25 = .ok (.istore 4, 2) := by decide +kernel
theorem d_M_works_27 : decode (rm_code mM_works) 27 = .ok (.iload_n 3, 1) := by decide +kernel
theorem d_M_works_28 : decode (rm_code mM_works) 28 = .ok (.iconst 4, 1) := by decide +kernel
theorem d_M_works_29 : decode (rm_code mM_works) 29 = .ok (.if_icmp .ne (28), 3) := by decide +kernel
theorem d_M_works_32 : decode (rm_code mM_works) 32 = .ok (.aload_n 0, 1) := by decide +kernel
theorem d_M_works_33 : decode (rm_code mM_works) 33 = .ok (.iload 4, 2) := by decide +kernel
theorem d_M_works_35 : decode (rm_code mM_works) 35 = .ok (.aload_n 0, 1) := by decide +kernel
theorem d_M_works_36 : decode (rm_code mM_works) 36 = .ok (.getfield 626, 3) := by decide +kernel
theorem d_M_works_39 : decode (rm_code mM_works) 39 = .ok (.invokevirtual 617, 3) := by decide +kernel
theorem d_M_works_42 : decode (rm_code mM_works) 42 = .ok (.aload_n 0, 1) := by decide +kernel
theorem d_M_works_43 : decode (rm_code mM_works) 43 = .ok (.aload_n 0, 1) := by decide +kernel
theorem d_M_works_44 : decode (rm_code mM_works) 44 = .ok (.getfield 641, 3) := by decide +kernel
theorem d_M_works_47 : decode (rm_code mM_works) 47 = .ok (.iload_n 2, 1) := by decide +kernel
theorem d_M_works_48 : decode (rm_code mM_works) 48 = .ok (.invokestatic 678, 3) := by decide +kernel
theorem d_M_works_51 : decode (rm_code mM_works) 51 = .ok (.iadd, 1) := by decide +kernel
theorem d_M_works_52 : decode (rm_code mM_works) 52 = .ok (.putfield 641, 3) := by decide +kernel
theorem d_M_works_55 : decode (rm_code mM_works) 55 = .ok (.iconst 1, 1) := by decide +kernel
theorem d_M_works_56 : decode (rm_code mM_works) 56 = .ok (.ireturn, 1) := by decide +kernel
theorem d_M_works_57 : decode (rm_code mM_works) 57 = .ok (.aload_n 0, 1) := by decide +kernel
theorem d_M_works_58 : decode (rm_code mM_works) 58 = .ok (.aload_n 0, 1) := by decide +kernel
theorem d_M_works_59 : decode (rm_code mM_works) 59 = .ok (.getfield 641, 3) := by decide +kernel
theorem d_M_works_62 : decode (rm_code mM_works) 62 = .ok (.aload_n 0, 1) := by decide +kernel
theorem d_M_works_63 : decode (rm_code mM_works) 63 = .ok (.iload_n 2, 1) := by decide +kernel
theorem d_M_works_64 : decode (rm_code mM_works) 64 = .ok (.invokevirtual 681, 3) := by decide +kernel
theorem d_M_works_67 : decode (rm_code mM_works) 67 = .ok (.iadd, 1) := by decide +kernel
theorem d_M_works_68 : decode (rm_code mM_works) 68 = .ok (.putfield 641, 3) := by decide +kernel
theorem d_M_works_71 : decode (rm_code mM_works) 71 = .ok (.aload_n 0, 1) := by decide +kernel
theorem d_M_works_72 : decode (rm_code mM_works) 72 = .ok (.iload 4, 2) := by decide +kernel
theorem d_M_works_74 : decode (rm_code mM_works) 74 = .ok (.invokevirtual 620, 3) := by decide +kernel
theorem d_M_works_77 : decode (rm_code mM_works) 77 = .ok (.istore 5, 2) := by decide +kernel
theorem d_M_works_79 : decode (rm_code mM_works) 79 = .ok (.iload_n 3, 1) := by decide +kernel
theorem d_M_works_80 : decode (rm_code mM_works) 80 = .ok (.tableswitch (133) (0) (6) #[(44), (62), (80), (98), (133), (107), (120)], 44) := by decide +kernel
theorem d_M_works_124 : decode (rm_code mM_works) 124 = .ok (.aload_n 0, 1) := by decide +kernel
theorem d_M_works_125 : decode (rm_code mM_works) 125 = .ok (.aload_n 0, 1) := by decide +kernel
theorem d_M_works_126 : decode (rm_code mM_works) 126 = .ok (.aload_n 0, 1) := by decide +kernel
theorem d_M_works_127 : decode (rm_code mM_works) 127 = .ok (.getfield 626, 3) := by decide +kernel
theorem d_M_works_130 : decode (rm_code mM_works) 130 = .ok (.iload 5, 2) := by decide +kernel
theorem d_M_works_132 : decode (rm_code mM_works) 132 = .ok (.ior, 1) := by decide +kernel
theorem d_M_works_133 : decode (rm_code mM_works) 133 = .ok (.invokevirtual 669, 3) := by decide +kernel
theorem d_M_works_136 : decode (rm_code mM_works) 136 = .ok (.putfield 626, 3) := by decide +kernel
theorem d_M_works_139 : decode (rm_code mM_works) 139 = .ok (.goto (80), 3) := by decide +kernel
theorem d_M_works_142 : decode (rm_code mM_works) 142 = .ok (.aload_n 0, 1) := by decide +kernel
theorem d_M_works_143 : decode (rm_code mM_works) 143 = .ok (.aload_n 0, 1) := by decide +kernel
theorem d_M_works_144 : decode (rm_code mM_works) 144 = .ok (.aload_n 0, 1) := by decide +kernel
theorem d_M_works_145 : decode (rm_code mM_works) 145 = .ok (.getfield 626, 3) := by decide +kernel
theorem d_M_works_148 : decode (rm_code mM_works) 148 = .ok (.iload 5, 2) := by decide +kernel
theorem d_M_works_150 : decode (rm_code mM_works) 150 = .ok (.iand, 1) := by decide +kernel
theorem d_M_works_151 : decode (rm_code mM_works) 151 = .ok (.invokevirtual 669, 3) := by decide +kernel
theorem d_M_works_154 : decode (rm_code mM_works) 154 = .ok (.putfield 626, 3) := by decide +kernel
theorem d_M_works_157 : decode (rm_code mM_works) 157 = .ok (.goto (62), 3) := by decide +kernel
theorem d_M_works_160 : decode (rm_code mM_works) 160 = .ok (.aload_n 0, 1) := by decide +kernel
theorem d_M_works_161 : decode (rm_code mM_works) 161 = .ok (.aload_n 0, 1) := by decide +kernel
theorem d_M_works_162 : decode (rm_code mM_works) 162 = .ok (.aload_n 0, 1) := by decide +kernel
theorem d_M_works_163 : decode (rm_code mM_works) 163 = .ok (.getfield 626, 3) := by decide +kernel
theorem d_M_works_166 : decode (rm_code mM_works) 166 = .ok (.iload 5, 2) := by decide +kernel
theorem d_M_works_168 : decode (rm_code mM_works) 168 = .ok (.ixor, 1) := by decide +kernel
theorem d_M_works_169 : decode (rm_code mM_works) 169 = .ok (.invokevirtual 669, 3) := by decide +kernel
theorem d_M_works_172 : decode (rm_code mM_works) 172 = .ok (.putfield 626, 3) := by decide +kernel
theorem d_M_works_175 : decode (rm_code mM_works) 175 = .ok (.goto (44), 3) := by decide +kernel
theorem d_M_works_178 : decode (rm_code mM_works) 178 = .ok (.aload_n 0, 1) := by decide +kernel
theorem d_M_works_179 : decode (rm_code mM_works) 179 = .ok (.iload 5, 2) := by decide +kernel
theorem d_M_works_181 : decode (rm_code mM_works) 181 = .ok (.invokevirtual 684, 3) := by decide +kernel
theorem d_M_works_184 : decode (rm_code mM_works) 184 = .ok (.goto (35), 3) := by decide +kernel
theorem d_M_works_187 : decode (rm_code mM_works) 187 = .ok (.aload_n 0, 1) := by decide +kernel
theorem d_M_works_188 : decode (rm_code mM_works) 188 = .ok (.aload_n 0, 1) := by decide +kernel
theorem d_M_works_189 : decode (rm_code mM_works) 189 = .ok (.iload 5, 2) := by decide +kernel
theorem d_M_works_191 : decode (rm_code mM_works) 191 = .ok (.invokevirtual 669, 3) := by decide +kernel
theorem d_M_works_194 : decode (rm_code mM_works) 194 = .ok (.putfield 626, 3) := by decide +kernel
theorem d_M_works_197 : decode (rm_code mM_works) 197 = .ok (.goto (22), 3) := by decide +kernel
theorem d_M_works_200 : decode (rm_code mM_works) 200 = .ok (.aload_n 0, 1) := by decide +kernel
theorem d_M_works_201 : decode (rm_code mM_works) 201 = .ok (.aload_n 0, 1) := by decide +kernel
theorem d_M_works_202 : decode (rm_code mM_works) 202 = .ok (.getfield 626, 3) := by decide +kernel
theorem d_M_works_205 : decode (rm_code mM_works) 205 = .ok (.iload 5, 2) := by decide +kernel
theorem d_M_works_207 : decode (rm_code mM_works) 207 = .ok (.invokevirtual 687, 3) := by decide +kernel
theorem d_M_works_210 : decode (rm_code mM_works) 210 = .ok (.goto (9), 3) := by decide +kernel
theorem d_M_works_213 : decode (rm_code mM_works) 213 = .ok (.aload_n 0, 1) := by decide +kernel
theorem d_M_works_214 : decode (rm_code mM_works) 214 = .ok (.iload 5, 2) := by decide +kernel
theorem d_M_works_216 : decode (rm_code mM_works) 216 = .ok (.invokevirtual 690, 3) := by decide +kernel
theorem d_M_works_219 : decode (rm_code mM_works) 219 = .ok (.iconst 1, 1) := by decide +kernel
theorem d_M_works_220 : decode (rm_code mM_works) 220 = .ok (.ireturn, 1) := by decide +kernel
theorem p_M_works_0 {S : rz_S} {K : Int32 → rz_S → Prop} {a1 : Int32} (w : rz_ev mM_howOf [.int a1] S (rz_i (fun xq1 Sq1 => ((a1 >>> ((5 : Int32) &&& 31) = 4 → ((xq1 = 0 → K 0 Sq1) ∧ (¬ xq1 = 0 → rz mM_works 20 [(0, .ref 116), (2, .int xq1), (3, .int (a1 >>> ((5 : Int32) &&& 31)))] [] Sq1 (rz_i K)))) ∧ (¬ a1 >>> ((5 : Int32) &&& 31) = 4 → rz mM_works 20 [(0, .ref 116), (2, .int xq1), (3, .int (a1 >>> ((5 : Int32) &&& 31)))] [] Sq1 (rz_i K)))))) : rz mM_works 0 [(0, .ref 116), (1, .int a1)] [] S (rz_i K) := by
  refine rz_pure (pc' := 1) d_M_works_0 rfl ?_
  refine rz_callSi (t := [.int a1]) d_M_works_1 rfl w_12_672 rfl rfl w (fun xq1 Sq1 q1 => ?_)
  refine rz_pure (pc' := 5) (l' := [(2, .int xq1), (0, .ref 116), (1, .int a1)]) d_M_works_4 rfl ?_
  refine rz_pure (pc' := 6) d_M_works_5 rfl ?_
  refine rz_iconst (v := 5) d_M_works_6 (by decide) ?_
  refine rz_ishr d_M_works_7 ?_
  refine rz_pure (pc' := 9) (l' := [(3, .int (a1 >>> ((5 : Int32) &&& 31))), (2, .int xq1), (0, .ref 116), (1, .int a1)]) d_M_works_8 rfl ?_
  refine rz_pure (pc' := 10) d_M_works_9 rfl ?_
  refine rz_iconst (v := 4) d_M_works_10 (by decide) ?_
  refine rz_icmpne (tgt := 20) d_M_works_11 rfl (fun b2 => ?_) (fun b2 => ?_)
  · skip
    exact rz_pick (ks := [0, 2, 3]) (l := [(0, .ref 116), (2, .int xq1), (3, .int (a1 >>> ((5 : Int32) &&& 31)))]) rfl rfl (by decide) rfl (q1.2 b2)
  · skip
    refine rz_pure (pc' := 15) d_M_works_14 rfl ?_
    refine rz_ifne (tgt := 20) d_M_works_15 rfl (fun b3 => ?_) (fun b3 => ?_)
    · skip
      exact rz_pick (ks := [0, 2, 3]) (l := [(0, .ref 116), (2, .int xq1), (3, .int (a1 >>> ((5 : Int32) &&& 31)))]) rfl rfl (by decide) rfl ((q1.1 b2).2 b3)
    · skip
      refine rz_iconst (v := 0) d_M_works_18 (by decide) ?_
      exact rz_ireti d_M_works_19 rfl (by decide) ((q1.1 b2).1 b3)
theorem p_M_works_20 {S : rz_S} {K : Int32 → rz_S → Prop} {a2 : Int32} {a3 : Int32} (w : rz_ev mM_address [.ref 116, .int a2] S (rz_i (fun xq1 Sq1 => ((a3 = 4 → rz_ev mM_put [.ref 116, .int xq1, .int (Sq1.2 116 75)] Sq1 (rz_v (fun Sq13 => rz_ev mM_storeTime [.int a2] Sq13 (rz_i (fun xq14 Sq14 => K 1 (rz_uI Sq14 116 81 ((Sq13.2 116 81) + xq14))))))) ∧ (¬ a3 = 4 → rz_ev mM_readTime [.ref 116, .int a2] Sq1 (rz_i (fun xq3 Sq3 => rz_ev mM_get [.ref 116, .int xq1] (rz_uI Sq3 116 81 ((Sq1.2 116 81) + xq3)) (rz_i (fun xq4 Sq4 => ((a3.toInt < 0 ∨ 6 < a3.toInt → rz_ev mM_takesOff [.ref 116, .int xq4] Sq4 (rz_v (fun Sq5 => K 1 Sq5))) ∧ (a3 = 0 → rz_ev mM_marks [.ref 116, .int ((Sq4.2 116 75) ||| xq4)] Sq4 (rz_i (fun xq6 Sq6 => K 1 (rz_uI Sq6 116 75 xq6)))) ∧ (a3 = 1 → rz_ev mM_marks [.ref 116, .int ((Sq4.2 116 75) &&& xq4)] Sq4 (rz_i (fun xq7 Sq7 => K 1 (rz_uI Sq7 116 75 xq7)))) ∧ (a3 = 2 → rz_ev mM_marks [.ref 116, .int ((Sq4.2 116 75) ^^^ xq4)] Sq4 (rz_i (fun xq8 Sq8 => K 1 (rz_uI Sq8 116 75 xq8)))) ∧ (a3 = 3 → rz_ev mM_adds [.ref 116, .int xq4] Sq4 (rz_v (fun Sq9 => K 1 Sq9))) ∧ (a3 = 4 → rz_ev mM_takesOff [.ref 116, .int xq4] Sq4 (rz_v (fun Sq10 => K 1 Sq10))) ∧ (a3 = 5 → rz_ev mM_marks [.ref 116, .int xq4] Sq4 (rz_i (fun xq11 Sq11 => K 1 (rz_uI Sq11 116 75 xq11)))) ∧ (a3 = 6 → rz_ev mM_compares [.ref 116, .int (Sq4.2 116 75), .int xq4] Sq4 (rz_v (fun Sq12 => K 1 Sq12))))))))))))) : rz mM_works 20 [(0, .ref 116), (2, .int a2), (3, .int a3)] [] S (rz_i K) := by
  refine rz_pure (pc' := 21) d_M_works_20 rfl ?_
  refine rz_pure (pc' := 22) d_M_works_21 rfl ?_
  refine rz_callVi (t := [.int a2]) d_M_works_22 w_12_675 rfl rfl rfl w (fun xq1 Sq1 q1 => ?_)
  refine rz_pure (pc' := 27) (l' := [(4, .int xq1), (0, .ref 116), (2, .int a2), (3, .int a3)]) d_M_works_25 rfl ?_
  refine rz_pure (pc' := 28) d_M_works_27 rfl ?_
  refine rz_iconst (v := 4) d_M_works_28 (by decide) ?_
  refine rz_icmpne (tgt := 57) d_M_works_29 rfl (fun b2 => ?_) (fun b2 => ?_)
  · skip
    refine rz_pure (pc' := 58) d_M_works_57 rfl ?_
    refine rz_pure (pc' := 59) d_M_works_58 rfl ?_
    refine rz_getiv (v := Sq1.2 116 81) d_M_works_59 f_12_641 rfl rfl rfl ?_
    refine rz_pure (pc' := 63) d_M_works_62 rfl ?_
    refine rz_pure (pc' := 64) d_M_works_63 rfl ?_
    refine rz_callVi (t := [.int a2]) d_M_works_64 w_12_681 rfl rfl rfl (q1.2 b2) (fun xq3 Sq3 q3 => ?_)
    refine rz_iadd d_M_works_67 ?_
    refine rz_puti d_M_works_68 f_12_641 rfl rfl rfl ?_
    refine rz_pure (pc' := 72) d_M_works_71 rfl ?_
    refine rz_pure (pc' := 74) d_M_works_72 rfl ?_
    refine rz_callVi (t := [.int xq1]) d_M_works_74 w_12_620 rfl rfl rfl q3 (fun xq4 Sq4 q4 => ?_)
    refine rz_pure (pc' := 79) (l' := [(5, .int xq4), (4, .int xq1), (0, .ref 116), (2, .int a2), (3, .int a3)]) d_M_works_77 rfl ?_
    refine rz_pure (pc' := 80) d_M_works_79 rfl ?_
    refine rz_tsw (n := 7) (lo := 0) (tgt := 213) d_M_works_80 rfl rfl (fun b0 => ?_) (fun j hj hx => ?_)
    · skip
      refine rz_pure (pc' := 214) d_M_works_213 rfl ?_
      refine rz_pure (pc' := 216) d_M_works_214 rfl ?_
      refine rz_callVv (t := [.int xq4]) d_M_works_216 w_12_690 rfl rfl rfl (q4.1 b0) (fun Sq5 q5 => ?_)
      refine rz_iconst (v := 1) d_M_works_219 (by decide) ?_
      exact rz_ireti d_M_works_220 rfl (by decide) q5
    · match j, hj with
      | 0, _ =>
        replace hx := hx.trans (show Int32.ofInt ((0 : Int) + ((0 : Nat) : Int)) = 0 from by decide)
        refine rz_tsj (tgt := 124) d_M_works_80 hx rfl ?_
        refine rz_pure (pc' := 125) d_M_works_124 rfl ?_
        refine rz_pure (pc' := 126) d_M_works_125 rfl ?_
        refine rz_pure (pc' := 127) d_M_works_126 rfl ?_
        refine rz_getiv (v := Sq4.2 116 75) d_M_works_127 f_12_626 rfl rfl rfl ?_
        refine rz_pure (pc' := 132) d_M_works_130 rfl ?_
        refine rz_ior d_M_works_132 ?_
        refine rz_callVi (t := [.int ((Sq4.2 116 75) ||| xq4)]) d_M_works_133 w_12_669 rfl rfl rfl (q4.2.1 hx) (fun xq6 Sq6 q6 => ?_)
        refine rz_puti d_M_works_136 f_12_626 rfl rfl rfl ?_
        refine rz_pure (pc' := 219) d_M_works_139 rfl ?_
        refine rz_iconst (v := 1) d_M_works_219 (by decide) ?_
        exact rz_ireti d_M_works_220 rfl (by decide) q6
      | 1, _ =>
        replace hx := hx.trans (show Int32.ofInt ((0 : Int) + ((1 : Nat) : Int)) = 1 from by decide)
        refine rz_tsj (tgt := 142) d_M_works_80 hx rfl ?_
        refine rz_pure (pc' := 143) d_M_works_142 rfl ?_
        refine rz_pure (pc' := 144) d_M_works_143 rfl ?_
        refine rz_pure (pc' := 145) d_M_works_144 rfl ?_
        refine rz_getiv (v := Sq4.2 116 75) d_M_works_145 f_12_626 rfl rfl rfl ?_
        refine rz_pure (pc' := 150) d_M_works_148 rfl ?_
        refine rz_iand d_M_works_150 ?_
        refine rz_callVi (t := [.int ((Sq4.2 116 75) &&& xq4)]) d_M_works_151 w_12_669 rfl rfl rfl (q4.2.2.1 hx) (fun xq7 Sq7 q7 => ?_)
        refine rz_puti d_M_works_154 f_12_626 rfl rfl rfl ?_
        refine rz_pure (pc' := 219) d_M_works_157 rfl ?_
        refine rz_iconst (v := 1) d_M_works_219 (by decide) ?_
        exact rz_ireti d_M_works_220 rfl (by decide) q7
      | 2, _ =>
        replace hx := hx.trans (show Int32.ofInt ((0 : Int) + ((2 : Nat) : Int)) = 2 from by decide)
        refine rz_tsj (tgt := 160) d_M_works_80 hx rfl ?_
        refine rz_pure (pc' := 161) d_M_works_160 rfl ?_
        refine rz_pure (pc' := 162) d_M_works_161 rfl ?_
        refine rz_pure (pc' := 163) d_M_works_162 rfl ?_
        refine rz_getiv (v := Sq4.2 116 75) d_M_works_163 f_12_626 rfl rfl rfl ?_
        refine rz_pure (pc' := 168) d_M_works_166 rfl ?_
        refine rz_ixor d_M_works_168 ?_
        refine rz_callVi (t := [.int ((Sq4.2 116 75) ^^^ xq4)]) d_M_works_169 w_12_669 rfl rfl rfl (q4.2.2.2.1 hx) (fun xq8 Sq8 q8 => ?_)
        refine rz_puti d_M_works_172 f_12_626 rfl rfl rfl ?_
        refine rz_pure (pc' := 219) d_M_works_175 rfl ?_
        refine rz_iconst (v := 1) d_M_works_219 (by decide) ?_
        exact rz_ireti d_M_works_220 rfl (by decide) q8
      | 3, _ =>
        replace hx := hx.trans (show Int32.ofInt ((0 : Int) + ((3 : Nat) : Int)) = 3 from by decide)
        refine rz_tsj (tgt := 178) d_M_works_80 hx rfl ?_
        refine rz_pure (pc' := 179) d_M_works_178 rfl ?_
        refine rz_pure (pc' := 181) d_M_works_179 rfl ?_
        refine rz_callVv (t := [.int xq4]) d_M_works_181 w_12_684 rfl rfl rfl (q4.2.2.2.2.1 hx) (fun Sq9 q9 => ?_)
        refine rz_pure (pc' := 219) d_M_works_184 rfl ?_
        refine rz_iconst (v := 1) d_M_works_219 (by decide) ?_
        exact rz_ireti d_M_works_220 rfl (by decide) q9
      | 4, _ =>
        replace hx := hx.trans (show Int32.ofInt ((0 : Int) + ((4 : Nat) : Int)) = 4 from by decide)
        refine rz_tsj (tgt := 213) d_M_works_80 hx rfl ?_
        refine rz_pure (pc' := 214) d_M_works_213 rfl ?_
        refine rz_pure (pc' := 216) d_M_works_214 rfl ?_
        refine rz_callVv (t := [.int xq4]) d_M_works_216 w_12_690 rfl rfl rfl (q4.2.2.2.2.2.1 hx) (fun Sq10 q10 => ?_)
        refine rz_iconst (v := 1) d_M_works_219 (by decide) ?_
        exact rz_ireti d_M_works_220 rfl (by decide) q10
      | 5, _ =>
        replace hx := hx.trans (show Int32.ofInt ((0 : Int) + ((5 : Nat) : Int)) = 5 from by decide)
        refine rz_tsj (tgt := 187) d_M_works_80 hx rfl ?_
        refine rz_pure (pc' := 188) d_M_works_187 rfl ?_
        refine rz_pure (pc' := 189) d_M_works_188 rfl ?_
        refine rz_pure (pc' := 191) d_M_works_189 rfl ?_
        refine rz_callVi (t := [.int xq4]) d_M_works_191 w_12_669 rfl rfl rfl (q4.2.2.2.2.2.2.1 hx) (fun xq11 Sq11 q11 => ?_)
        refine rz_puti d_M_works_194 f_12_626 rfl rfl rfl ?_
        refine rz_pure (pc' := 219) d_M_works_197 rfl ?_
        refine rz_iconst (v := 1) d_M_works_219 (by decide) ?_
        exact rz_ireti d_M_works_220 rfl (by decide) q11
      | 6, _ =>
        replace hx := hx.trans (show Int32.ofInt ((0 : Int) + ((6 : Nat) : Int)) = 6 from by decide)
        refine rz_tsj (tgt := 200) d_M_works_80 hx rfl ?_
        refine rz_pure (pc' := 201) d_M_works_200 rfl ?_
        refine rz_pure (pc' := 202) d_M_works_201 rfl ?_
        refine rz_getiv (v := Sq4.2 116 75) d_M_works_202 f_12_626 rfl rfl rfl ?_
        refine rz_pure (pc' := 207) d_M_works_205 rfl ?_
        refine rz_callVv (t := [.int xq4, .int (Sq4.2 116 75)]) d_M_works_207 w_12_687 rfl rfl rfl (q4.2.2.2.2.2.2.2 hx) (fun Sq12 q12 => ?_)
        refine rz_pure (pc' := 219) d_M_works_210 rfl ?_
        refine rz_iconst (v := 1) d_M_works_219 (by decide) ?_
        exact rz_ireti d_M_works_220 rfl (by decide) q12
      | j + 7, h => exact absurd h (by omega)
  · skip
    refine rz_pure (pc' := 33) d_M_works_32 rfl ?_
    refine rz_pure (pc' := 35) d_M_works_33 rfl ?_
    refine rz_pure (pc' := 36) d_M_works_35 rfl ?_
    refine rz_getiv (v := Sq1.2 116 75) d_M_works_36 f_12_626 rfl rfl rfl ?_
    refine rz_callVv (t := [.int (Sq1.2 116 75), .int xq1]) d_M_works_39 w_12_617 rfl rfl rfl (q1.1 b2) (fun Sq13 q13 => ?_)
    refine rz_pure (pc' := 43) d_M_works_42 rfl ?_
    refine rz_pure (pc' := 44) d_M_works_43 rfl ?_
    refine rz_getiv (v := Sq13.2 116 81) d_M_works_44 f_12_641 rfl rfl rfl ?_
    refine rz_pure (pc' := 48) d_M_works_47 rfl ?_
    refine rz_callSi (t := [.int a2]) d_M_works_48 rfl w_12_678 rfl rfl q13 (fun xq14 Sq14 q14 => ?_)
    refine rz_iadd d_M_works_51 ?_
    refine rz_puti d_M_works_52 f_12_641 rfl rfl rfl ?_
    refine rz_iconst (v := 1) d_M_works_55 (by decide) ?_
    exact rz_ireti d_M_works_56 rfl (by decide) q14
theorem d_M_shifted_0 : decode (rm_code mM_shifted) 0 = .ok (.aload_n 0, 1) := by decide +kernel
theorem d_M_shifted_1 : decode (rm_code mM_shifted) 1 = .ok (.iconst 1, 1) := by decide +kernel
theorem d_M_shifted_2 : decode (rm_code mM_shifted) 2 = .ok (.invokevirtual 666, 3) := by decide +kernel
theorem d_M_shifted_5 : decode (rm_code mM_shifted) 5 = .ok (.ifCond .eq (7), 3) := by decide +kernel
theorem d_M_shifted_8 : decode (rm_code mM_shifted) 8 = .ok (.iconst 1, 1) := by decide +kernel
theorem d_M_shifted_9 : decode (rm_code mM_shifted) 9 = .ok (.goto (4), 3) := by decide +kernel
theorem d_M_shifted_12 : decode (rm_code mM_shifted) 12 = .ok (.iconst 0, 1) := by decide +kernel
theorem d_M_shifted_13 : decode (rm_code mM_shifted) 13 = .ok (.istore_n 3, 1) := by decide +kernel
theorem d_M_shifted_14 : decode (rm_code mM_shifted) 14 = .ok (.iload_n 1, 1) := by decide +kernel
theorem d_M_shifted_15 : decode (rm_code mM_shifted) 15 = .ok (.tableswitch (156) (0) (6) #[(41), (67), (95), (119), (156), (156), (148)], 41) := by decide +kernel
theorem d_M_shifted_56 : decode (rm_code mM_shifted) 56 = .ok (.aload_n 0, 1) := by decide +kernel
theorem d_M_shifted_57 : decode (rm_code mM_shifted) 57 = .ok (.iconst 1, 1) := by decide +kernel
theorem d_M_shifted_58 : decode (rm_code mM_shifted) 58 = .ok (.iload_n 2, 1) := by decide +kernel
theorem d_M_shifted_59 : decode (rm_code mM_shifted) 59 = .ok (.sipush (128), 3) := by decide +kernel
theorem d_M_shifted_62 : decode (rm_code mM_shifted) 62 = .ok (.iand, 1) := by decide +kernel
theorem d_M_shifted_63 : decode (rm_code mM_shifted) 63 = .ok (.ifCond .eq (7), 3) := by decide +kernel
theorem d_M_shifted_66 : decode (rm_code mM_shifted) 66 = .ok (.iconst 1, 1) := by decide +kernel
theorem d_M_shifted_67 : decode (rm_code mM_shifted) 67 = .ok (.goto (4), 3) := by decide +kernel
theorem d_M_shifted_70 : decode (rm_code mM_shifted) 70 = .ok (.iconst 0, 1) := by decide +kernel
theorem d_M_shifted_71 : decode (rm_code mM_shifted) 71 = .ok (.invokevirtual 656, 3) := by decide +kernel
theorem d_M_shifted_74 : decode (rm_code mM_shifted) 74 = .ok (.aload_n 0, 1) := by decide +kernel
theorem d_M_shifted_75 : decode (rm_code mM_shifted) 75 = .ok (.iload_n 2, 1) := by decide +kernel
theorem d_M_shifted_76 : decode (rm_code mM_shifted) 76 = .ok (.iconst 1, 1) := by decide +kernel
theorem d_M_shifted_77 : decode (rm_code mM_shifted) 77 = .ok (.ishl, 1) := by decide +kernel
theorem d_M_shifted_78 : decode (rm_code mM_shifted) 78 = .ok (.invokevirtual 669, 3) := by decide +kernel
theorem d_M_shifted_81 : decode (rm_code mM_shifted) 81 = .ok (.ireturn, 1) := by decide +kernel
theorem d_M_shifted_82 : decode (rm_code mM_shifted) 82 = .ok (.aload_n 0, 1) := by decide +kernel
theorem d_M_shifted_83 : decode (rm_code mM_shifted) 83 = .ok (.iconst 1, 1) := by decide +kernel
theorem d_M_shifted_84 : decode (rm_code mM_shifted) 84 = .ok (.iload_n 2, 1) := by decide +kernel
theorem d_M_shifted_85 : decode (rm_code mM_shifted) 85 = .ok (.sipush (128), 3) := by decide +kernel
theorem d_M_shifted_88 : decode (rm_code mM_shifted) 88 = .ok (.iand, 1) := by decide +kernel
theorem d_M_shifted_89 : decode (rm_code mM_shifted) 89 = .ok (.ifCond .eq (7), 3) := by decide +kernel
theorem d_M_shifted_92 : decode (rm_code mM_shifted) 92 = .ok (.iconst 1, 1) := by decide +kernel
theorem d_M_shifted_93 : decode (rm_code mM_shifted) 93 = .ok (.goto (4), 3) := by decide +kernel
theorem d_M_shifted_96 : decode (rm_code mM_shifted) 96 = .ok (.iconst 0, 1) := by decide +kernel
theorem d_M_shifted_97 : decode (rm_code mM_shifted) 97 = .ok (.invokevirtual 656, 3) := by decide +kernel
theorem d_M_shifted_100 : decode (rm_code mM_shifted) 100 = .ok (.aload_n 0, 1) := by decide +kernel
theorem d_M_shifted_101 : decode (rm_code mM_shifted) 101 = .ok (.iload_n 2, 1) := by decide +kernel
theorem d_M_shifted_102 : decode (rm_code mM_shifted) 102 = .ok (.iconst 1, 1) := by decide +kernel
theorem d_M_shifted_103 : decode (rm_code mM_shifted) 103 = .ok (.ishl, 1) := by decide +kernel
theorem d_M_shifted_104 : decode (rm_code mM_shifted) 104 = .ok (.iload_n 3, 1) := by decide +kernel
theorem d_M_shifted_105 : decode (rm_code mM_shifted) 105 = .ok (.ior, 1) := by decide +kernel
theorem d_M_shifted_106 : decode (rm_code mM_shifted) 106 = .ok (.invokevirtual 669, 3) := by decide +kernel
theorem d_M_shifted_109 : decode (rm_code mM_shifted) 109 = .ok (.ireturn, 1) := by decide +kernel
theorem d_M_shifted_110 : decode (rm_code mM_shifted) 110 = .ok (.aload_n 0, 1) := by decide +kernel
theorem d_M_shifted_111 : decode (rm_code mM_shifted) 111 = .ok (.iconst 1, 1) := by decide +kernel
theorem d_M_shifted_112 : decode (rm_code mM_shifted) 112 = .ok (.iload_n 2, 1) := by decide +kernel
theorem d_M_shifted_113 : decode (rm_code mM_shifted) 113 = .ok (.iconst 1, 1) := by decide +kernel
theorem d_M_shifted_114 : decode (rm_code mM_shifted) 114 = .ok (.iand, 1) := by decide +kernel
theorem d_M_shifted_115 : decode (rm_code mM_shifted) 115 = .ok (.ifCond .eq (7), 3) := by decide +kernel
theorem d_M_shifted_118 : decode (rm_code mM_shifted) 118 = .ok (.iconst 1, 1) := by decide +kernel
theorem d_M_shifted_119 : decode (rm_code mM_shifted) 119 = .ok (.goto (4), 3) := by decide +kernel
theorem d_M_shifted_122 : decode (rm_code mM_shifted) 122 = .ok (.iconst 0, 1) := by decide +kernel
theorem d_M_shifted_123 : decode (rm_code mM_shifted) 123 = .ok (.invokevirtual 656, 3) := by decide +kernel
theorem d_M_shifted_126 : decode (rm_code mM_shifted) 126 = .ok (.aload_n 0, 1) := by decide +kernel
theorem d_M_shifted_127 : decode (rm_code mM_shifted) 127 = .ok (.iload_n 2, 1) := by decide +kernel
theorem d_M_shifted_128 : decode (rm_code mM_shifted) 128 = .ok (.iconst 1, 1) := by decide +kernel
theorem d_M_shifted_129 : decode (rm_code mM_shifted) 129 = .ok (.ishr, 1) := by decide +kernel
theorem d_M_shifted_130 : decode (rm_code mM_shifted) 130 = .ok (.invokevirtual 669, 3) := by decide +kernel
theorem d_M_shifted_133 : decode (rm_code mM_shifted) 133 = .ok (.ireturn, 1) := by decide +kernel
theorem d_M_shifted_134 : decode (rm_code mM_shifted) 134 = .ok (.aload_n 0, 1) := by decide +kernel
theorem d_M_shifted_135 : decode (rm_code mM_shifted) 135 = .ok (.iconst 1, 1) := by decide +kernel
theorem d_M_shifted_136 : decode (rm_code mM_shifted) 136 = .ok (.iload_n 2, 1) := by decide +kernel
theorem d_M_shifted_137 : decode (rm_code mM_shifted) 137 = .ok (.iconst 1, 1) := by decide +kernel
theorem d_M_shifted_138 : decode (rm_code mM_shifted) 138 = .ok (.iand, 1) := by decide +kernel
theorem d_M_shifted_139 : decode (rm_code mM_shifted) 139 = .ok (.ifCond .eq (7), 3) := by decide +kernel
theorem d_M_shifted_142 : decode (rm_code mM_shifted) 142 = .ok (.iconst 1, 1) := by decide +kernel
theorem d_M_shifted_143 : decode (rm_code mM_shifted) 143 = .ok (.goto (4), 3) := by decide +kernel
theorem d_M_shifted_146 : decode (rm_code mM_shifted) 146 = .ok (.iconst 0, 1) := by decide +kernel
theorem d_M_shifted_147 : decode (rm_code mM_shifted) 147 = .ok (.invokevirtual 656, 3) := by decide +kernel
theorem d_M_shifted_150 : decode (rm_code mM_shifted) 150 = .ok (.aload_n 0, 1) := by decide +kernel
theorem d_M_shifted_151 : decode (rm_code mM_shifted) 151 = .ok (.iload_n 2, 1) := by decide +kernel
theorem d_M_shifted_152 : decode (rm_code mM_shifted) 152 = .ok (.iconst 1, 1) := by decide +kernel
theorem d_M_shifted_153 : decode (rm_code mM_shifted) 153 = .ok (.ishr, 1) := by decide +kernel
theorem d_M_shifted_154 : decode (rm_code mM_shifted) 154 = .ok (.iload_n 3, 1) := by decide +kernel
theorem d_M_shifted_155 : decode (rm_code mM_shifted) 155 = .ok (.bipush (7), 2) := by decide +kernel
theorem d_M_shifted_157 : decode (rm_code mM_shifted) 157 = .ok (.ishl, 1) := by decide +kernel
theorem d_M_shifted_158 : decode (rm_code mM_shifted) 158 = .ok (.ior, 1) := by decide +kernel
theorem d_M_shifted_159 : decode (rm_code mM_shifted) 159 = .ok (.invokevirtual 669, 3) := by decide +kernel
theorem d_M_shifted_162 : decode (rm_code mM_shifted) 162 = .ok (.ireturn, 1) := by decide +kernel
theorem d_M_shifted_163 : decode (rm_code mM_shifted) 163 = .ok (.aload_n 0, 1) := by decide +kernel
theorem d_M_shifted_164 : decode (rm_code mM_shifted) 164 = .ok (.iload_n 2, 1) := by decide +kernel
theorem d_M_shifted_165 : decode (rm_code mM_shifted) 165 = .ok (.iconst 1, 1) := by decide +kernel
theorem d_M_shifted_166 : decode (rm_code mM_shifted) 166 = .ok (.isub, 1) := by decide +kernel
theorem d_M_shifted_167 : decode (rm_code mM_shifted) 167 = .ok (.invokevirtual 669, 3) := by decide +kernel
theorem d_M_shifted_170 : decode (rm_code mM_shifted) 170 = .ok (.ireturn, 1) := by decide +kernel
theorem d_M_shifted_171 : decode (rm_code mM_shifted) 171 = .ok (.aload_n 0, 1) := by decide +kernel
theorem d_M_shifted_172 : decode (rm_code mM_shifted) 172 = .ok (.iload_n 2, 1) := by decide +kernel
theorem d_M_shifted_173 : decode (rm_code mM_shifted) 173 = .ok (.iconst 1, 1) := by decide +kernel
theorem d_M_shifted_174 : decode (rm_code mM_shifted) 174 = .ok (.iadd, 1) := by decide +kernel
theorem d_M_shifted_175 : decode (rm_code mM_shifted) 175 = .ok (.invokevirtual 669, 3) := by decide +kernel
theorem d_M_shifted_178 : decode (rm_code mM_shifted) 178 = .ok (.ireturn, 1) := by decide +kernel
theorem p_M_shifted_0 {S : rz_S} {K : Int32 → rz_S → Prop} {a1 : Int32} {a2 : Int32} (w : rz_ev mM_is [.ref 116, .int 1] S (rz_i (fun xq1 Sq1 => ((xq1 = 0 → rz mM_shifted 13 [(0, .ref 116), (1, .int a1), (2, .int a2)] [.int 0] Sq1 (rz_i K)) ∧ (¬ xq1 = 0 → rz mM_shifted 13 [(0, .ref 116), (1, .int a1), (2, .int a2)] [.int 1] Sq1 (rz_i K)))))) : rz mM_shifted 0 [(0, .ref 116), (1, .int a1), (2, .int a2)] [] S (rz_i K) := by
  refine rz_pure (pc' := 1) d_M_shifted_0 rfl ?_
  refine rz_iconst (v := 1) d_M_shifted_1 (by decide) ?_
  refine rz_callVi (t := [.int 1]) d_M_shifted_2 w_12_666 rfl rfl rfl w (fun xq1 Sq1 q1 => ?_)
  refine rz_ifeq (tgt := 12) d_M_shifted_5 rfl (fun b2 => ?_) (fun b2 => ?_)
  · skip
    refine rz_iconst (v := 0) d_M_shifted_12 (by decide) ?_
    exact rz_pick (ks := [0, 1, 2]) (l := [(0, .ref 116), (1, .int a1), (2, .int a2)]) rfl rfl (by decide) rfl (q1.1 b2)
  · skip
    refine rz_iconst (v := 1) d_M_shifted_8 (by decide) ?_
    refine rz_pure (pc' := 13) d_M_shifted_9 rfl ?_
    exact rz_pick (ks := [0, 1, 2]) (l := [(0, .ref 116), (1, .int a1), (2, .int a2)]) rfl rfl (by decide) rfl (q1.2 b2)
theorem p_M_shifted_13 {S : rz_S} {K : Int32 → rz_S → Prop} {a1 : Int32} {a2 : Int32} {s0 : Int32} (w : ((a1.toInt < 0 ∨ 6 < a1.toInt → rz_ev mM_marks [.ref 116, .int (a2 + 1)] S (rz_i (fun xq1 Sq1 => K xq1 Sq1))) ∧ (a1 = 0 → ((a2 &&& 128 = 0 → rz mM_shifted 71 [(0, .ref 116), (2, .int a2)] [.int 0, .int 1, .ref 116] S (rz_i K)) ∧ (¬ a2 &&& 128 = 0 → rz mM_shifted 71 [(0, .ref 116), (2, .int a2)] [.int 1, .int 1, .ref 116] S (rz_i K)))) ∧ (a1 = 1 → ((a2 &&& 128 = 0 → rz mM_shifted 97 [(0, .ref 116), (2, .int a2), (3, .int s0)] [.int 0, .int 1, .ref 116] S (rz_i K)) ∧ (¬ a2 &&& 128 = 0 → rz mM_shifted 97 [(0, .ref 116), (2, .int a2), (3, .int s0)] [.int 1, .int 1, .ref 116] S (rz_i K)))) ∧ (a1 = 2 → ((a2 &&& 1 = 0 → rz mM_shifted 123 [(0, .ref 116), (2, .int a2)] [.int 0, .int 1, .ref 116] S (rz_i K)) ∧ (¬ a2 &&& 1 = 0 → rz mM_shifted 123 [(0, .ref 116), (2, .int a2)] [.int 1, .int 1, .ref 116] S (rz_i K)))) ∧ (a1 = 3 → ((a2 &&& 1 = 0 → rz mM_shifted 147 [(0, .ref 116), (2, .int a2), (3, .int s0)] [.int 0, .int 1, .ref 116] S (rz_i K)) ∧ (¬ a2 &&& 1 = 0 → rz mM_shifted 147 [(0, .ref 116), (2, .int a2), (3, .int s0)] [.int 1, .int 1, .ref 116] S (rz_i K)))) ∧ (a1 = 4 → rz_ev mM_marks [.ref 116, .int (a2 + 1)] S (rz_i (fun xq6 Sq6 => K xq6 Sq6))) ∧ (a1 = 5 → rz_ev mM_marks [.ref 116, .int (a2 + 1)] S (rz_i (fun xq7 Sq7 => K xq7 Sq7))) ∧ (a1 = 6 → rz_ev mM_marks [.ref 116, .int (a2 - 1)] S (rz_i (fun xq8 Sq8 => K xq8 Sq8))))) : rz mM_shifted 13 [(0, .ref 116), (1, .int a1), (2, .int a2)] [.int s0] S (rz_i K) := by
  refine rz_pure (pc' := 14) (l' := [(3, .int s0), (0, .ref 116), (1, .int a1), (2, .int a2)]) d_M_shifted_13 rfl ?_
  refine rz_pure (pc' := 15) d_M_shifted_14 rfl ?_
  refine rz_tsw (n := 7) (lo := 0) (tgt := 171) d_M_shifted_15 rfl rfl (fun b0 => ?_) (fun j hj hx => ?_)
  · skip
    refine rz_pure (pc' := 172) d_M_shifted_171 rfl ?_
    refine rz_pure (pc' := 173) d_M_shifted_172 rfl ?_
    refine rz_iconst (v := 1) d_M_shifted_173 (by decide) ?_
    refine rz_iadd d_M_shifted_174 ?_
    refine rz_callVi (t := [.int (a2 + 1)]) d_M_shifted_175 w_12_669 rfl rfl rfl (w.1 b0) (fun xq1 Sq1 q1 => ?_)
    exact rz_ireti d_M_shifted_178 rfl rfl q1
  · match j, hj with
    | 0, _ =>
      replace hx := hx.trans (show Int32.ofInt ((0 : Int) + ((0 : Nat) : Int)) = 0 from by decide)
      refine rz_tsj (tgt := 56) d_M_shifted_15 hx rfl ?_
      refine rz_pure (pc' := 57) d_M_shifted_56 rfl ?_
      refine rz_iconst (v := 1) d_M_shifted_57 (by decide) ?_
      refine rz_pure (pc' := 59) d_M_shifted_58 rfl ?_
      refine rz_sipush (v := 128) d_M_shifted_59 (by decide) ?_
      refine rz_iand d_M_shifted_62 ?_
      refine rz_ifeq (tgt := 70) d_M_shifted_63 rfl (fun b2 => ?_) (fun b2 => ?_)
      · skip
        refine rz_iconst (v := 0) d_M_shifted_70 (by decide) ?_
        exact rz_pick (ks := [0, 2]) (l := [(0, .ref 116), (2, .int a2)]) rfl rfl (by decide) rfl ((w.2.1 hx).1 b2)
      · skip
        refine rz_iconst (v := 1) d_M_shifted_66 (by decide) ?_
        refine rz_pure (pc' := 71) d_M_shifted_67 rfl ?_
        exact rz_pick (ks := [0, 2]) (l := [(0, .ref 116), (2, .int a2)]) rfl rfl (by decide) rfl ((w.2.1 hx).2 b2)
    | 1, _ =>
      replace hx := hx.trans (show Int32.ofInt ((0 : Int) + ((1 : Nat) : Int)) = 1 from by decide)
      refine rz_tsj (tgt := 82) d_M_shifted_15 hx rfl ?_
      refine rz_pure (pc' := 83) d_M_shifted_82 rfl ?_
      refine rz_iconst (v := 1) d_M_shifted_83 (by decide) ?_
      refine rz_pure (pc' := 85) d_M_shifted_84 rfl ?_
      refine rz_sipush (v := 128) d_M_shifted_85 (by decide) ?_
      refine rz_iand d_M_shifted_88 ?_
      refine rz_ifeq (tgt := 96) d_M_shifted_89 rfl (fun b3 => ?_) (fun b3 => ?_)
      · skip
        refine rz_iconst (v := 0) d_M_shifted_96 (by decide) ?_
        exact rz_pick (ks := [0, 2, 3]) (l := [(0, .ref 116), (2, .int a2), (3, .int s0)]) rfl rfl (by decide) rfl ((w.2.2.1 hx).1 b3)
      · skip
        refine rz_iconst (v := 1) d_M_shifted_92 (by decide) ?_
        refine rz_pure (pc' := 97) d_M_shifted_93 rfl ?_
        exact rz_pick (ks := [0, 2, 3]) (l := [(0, .ref 116), (2, .int a2), (3, .int s0)]) rfl rfl (by decide) rfl ((w.2.2.1 hx).2 b3)
    | 2, _ =>
      replace hx := hx.trans (show Int32.ofInt ((0 : Int) + ((2 : Nat) : Int)) = 2 from by decide)
      refine rz_tsj (tgt := 110) d_M_shifted_15 hx rfl ?_
      refine rz_pure (pc' := 111) d_M_shifted_110 rfl ?_
      refine rz_iconst (v := 1) d_M_shifted_111 (by decide) ?_
      refine rz_pure (pc' := 113) d_M_shifted_112 rfl ?_
      refine rz_iconst (v := 1) d_M_shifted_113 (by decide) ?_
      refine rz_iand d_M_shifted_114 ?_
      refine rz_ifeq (tgt := 122) d_M_shifted_115 rfl (fun b4 => ?_) (fun b4 => ?_)
      · skip
        refine rz_iconst (v := 0) d_M_shifted_122 (by decide) ?_
        exact rz_pick (ks := [0, 2]) (l := [(0, .ref 116), (2, .int a2)]) rfl rfl (by decide) rfl ((w.2.2.2.1 hx).1 b4)
      · skip
        refine rz_iconst (v := 1) d_M_shifted_118 (by decide) ?_
        refine rz_pure (pc' := 123) d_M_shifted_119 rfl ?_
        exact rz_pick (ks := [0, 2]) (l := [(0, .ref 116), (2, .int a2)]) rfl rfl (by decide) rfl ((w.2.2.2.1 hx).2 b4)
    | 3, _ =>
      replace hx := hx.trans (show Int32.ofInt ((0 : Int) + ((3 : Nat) : Int)) = 3 from by decide)
      refine rz_tsj (tgt := 134) d_M_shifted_15 hx rfl ?_
      refine rz_pure (pc' := 135) d_M_shifted_134 rfl ?_
      refine rz_iconst (v := 1) d_M_shifted_135 (by decide) ?_
      refine rz_pure (pc' := 137) d_M_shifted_136 rfl ?_
      refine rz_iconst (v := 1) d_M_shifted_137 (by decide) ?_
      refine rz_iand d_M_shifted_138 ?_
      refine rz_ifeq (tgt := 146) d_M_shifted_139 rfl (fun b5 => ?_) (fun b5 => ?_)
      · skip
        refine rz_iconst (v := 0) d_M_shifted_146 (by decide) ?_
        exact rz_pick (ks := [0, 2, 3]) (l := [(0, .ref 116), (2, .int a2), (3, .int s0)]) rfl rfl (by decide) rfl ((w.2.2.2.2.1 hx).1 b5)
      · skip
        refine rz_iconst (v := 1) d_M_shifted_142 (by decide) ?_
        refine rz_pure (pc' := 147) d_M_shifted_143 rfl ?_
        exact rz_pick (ks := [0, 2, 3]) (l := [(0, .ref 116), (2, .int a2), (3, .int s0)]) rfl rfl (by decide) rfl ((w.2.2.2.2.1 hx).2 b5)
    | 4, _ =>
      replace hx := hx.trans (show Int32.ofInt ((0 : Int) + ((4 : Nat) : Int)) = 4 from by decide)
      refine rz_tsj (tgt := 171) d_M_shifted_15 hx rfl ?_
      refine rz_pure (pc' := 172) d_M_shifted_171 rfl ?_
      refine rz_pure (pc' := 173) d_M_shifted_172 rfl ?_
      refine rz_iconst (v := 1) d_M_shifted_173 (by decide) ?_
      refine rz_iadd d_M_shifted_174 ?_
      refine rz_callVi (t := [.int (a2 + 1)]) d_M_shifted_175 w_12_669 rfl rfl rfl (w.2.2.2.2.2.1 hx) (fun xq6 Sq6 q6 => ?_)
      exact rz_ireti d_M_shifted_178 rfl rfl q6
    | 5, _ =>
      replace hx := hx.trans (show Int32.ofInt ((0 : Int) + ((5 : Nat) : Int)) = 5 from by decide)
      refine rz_tsj (tgt := 171) d_M_shifted_15 hx rfl ?_
      refine rz_pure (pc' := 172) d_M_shifted_171 rfl ?_
      refine rz_pure (pc' := 173) d_M_shifted_172 rfl ?_
      refine rz_iconst (v := 1) d_M_shifted_173 (by decide) ?_
      refine rz_iadd d_M_shifted_174 ?_
      refine rz_callVi (t := [.int (a2 + 1)]) d_M_shifted_175 w_12_669 rfl rfl rfl (w.2.2.2.2.2.2.1 hx) (fun xq7 Sq7 q7 => ?_)
      exact rz_ireti d_M_shifted_178 rfl rfl q7
    | 6, _ =>
      replace hx := hx.trans (show Int32.ofInt ((0 : Int) + ((6 : Nat) : Int)) = 6 from by decide)
      refine rz_tsj (tgt := 163) d_M_shifted_15 hx rfl ?_
      refine rz_pure (pc' := 164) d_M_shifted_163 rfl ?_
      refine rz_pure (pc' := 165) d_M_shifted_164 rfl ?_
      refine rz_iconst (v := 1) d_M_shifted_165 (by decide) ?_
      refine rz_isub d_M_shifted_166 ?_
      refine rz_callVi (t := [.int (a2 - 1)]) d_M_shifted_167 w_12_669 rfl rfl rfl (w.2.2.2.2.2.2.2 hx) (fun xq8 Sq8 q8 => ?_)
      exact rz_ireti d_M_shifted_170 rfl rfl q8
    | j + 7, h => exact absurd h (by omega)
theorem p_M_shifted_71 {S : rz_S} {K : Int32 → rz_S → Prop} {a2 : Int32} {s0 : Int32} {s1 : Int32} (w : rz_ev mM_flag [.ref 116, .int s1, .int s0] S (rz_v (fun Sq1 => rz_ev mM_marks [.ref 116, .int (a2 <<< ((1 : Int32) &&& 31))] Sq1 (rz_i (fun xq2 Sq2 => K xq2 Sq2))))) : rz mM_shifted 71 [(0, .ref 116), (2, .int a2)] [.int s0, .int s1, .ref 116] S (rz_i K) := by
  refine rz_callVv (t := [.int s0, .int s1]) d_M_shifted_71 w_12_656 rfl rfl rfl w (fun Sq1 q1 => ?_)
  refine rz_pure (pc' := 75) d_M_shifted_74 rfl ?_
  refine rz_pure (pc' := 76) d_M_shifted_75 rfl ?_
  refine rz_iconst (v := 1) d_M_shifted_76 (by decide) ?_
  refine rz_ishl d_M_shifted_77 ?_
  refine rz_callVi (t := [.int (a2 <<< ((1 : Int32) &&& 31))]) d_M_shifted_78 w_12_669 rfl rfl rfl q1 (fun xq2 Sq2 q2 => ?_)
  exact rz_ireti d_M_shifted_81 rfl rfl q2
theorem p_M_shifted_97 {S : rz_S} {K : Int32 → rz_S → Prop} {a2 : Int32} {a3 : Int32} {s0 : Int32} {s1 : Int32} (w : rz_ev mM_flag [.ref 116, .int s1, .int s0] S (rz_v (fun Sq1 => rz_ev mM_marks [.ref 116, .int ((a2 <<< ((1 : Int32) &&& 31)) ||| a3)] Sq1 (rz_i (fun xq2 Sq2 => K xq2 Sq2))))) : rz mM_shifted 97 [(0, .ref 116), (2, .int a2), (3, .int a3)] [.int s0, .int s1, .ref 116] S (rz_i K) := by
  refine rz_callVv (t := [.int s0, .int s1]) d_M_shifted_97 w_12_656 rfl rfl rfl w (fun Sq1 q1 => ?_)
  refine rz_pure (pc' := 101) d_M_shifted_100 rfl ?_
  refine rz_pure (pc' := 102) d_M_shifted_101 rfl ?_
  refine rz_iconst (v := 1) d_M_shifted_102 (by decide) ?_
  refine rz_ishl d_M_shifted_103 ?_
  refine rz_pure (pc' := 105) d_M_shifted_104 rfl ?_
  refine rz_ior d_M_shifted_105 ?_
  refine rz_callVi (t := [.int ((a2 <<< ((1 : Int32) &&& 31)) ||| a3)]) d_M_shifted_106 w_12_669 rfl rfl rfl q1 (fun xq2 Sq2 q2 => ?_)
  exact rz_ireti d_M_shifted_109 rfl rfl q2
theorem p_M_shifted_123 {S : rz_S} {K : Int32 → rz_S → Prop} {a2 : Int32} {s0 : Int32} {s1 : Int32} (w : rz_ev mM_flag [.ref 116, .int s1, .int s0] S (rz_v (fun Sq1 => rz_ev mM_marks [.ref 116, .int (a2 >>> ((1 : Int32) &&& 31))] Sq1 (rz_i (fun xq2 Sq2 => K xq2 Sq2))))) : rz mM_shifted 123 [(0, .ref 116), (2, .int a2)] [.int s0, .int s1, .ref 116] S (rz_i K) := by
  refine rz_callVv (t := [.int s0, .int s1]) d_M_shifted_123 w_12_656 rfl rfl rfl w (fun Sq1 q1 => ?_)
  refine rz_pure (pc' := 127) d_M_shifted_126 rfl ?_
  refine rz_pure (pc' := 128) d_M_shifted_127 rfl ?_
  refine rz_iconst (v := 1) d_M_shifted_128 (by decide) ?_
  refine rz_ishr d_M_shifted_129 ?_
  refine rz_callVi (t := [.int (a2 >>> ((1 : Int32) &&& 31))]) d_M_shifted_130 w_12_669 rfl rfl rfl q1 (fun xq2 Sq2 q2 => ?_)
  exact rz_ireti d_M_shifted_133 rfl rfl q2
theorem p_M_shifted_147 {S : rz_S} {K : Int32 → rz_S → Prop} {a2 : Int32} {a3 : Int32} {s0 : Int32} {s1 : Int32} (w : rz_ev mM_flag [.ref 116, .int s1, .int s0] S (rz_v (fun Sq1 => rz_ev mM_marks [.ref 116, .int ((a2 >>> ((1 : Int32) &&& 31)) ||| (a3 <<< ((7 : Int32) &&& 31)))] Sq1 (rz_i (fun xq2 Sq2 => K xq2 Sq2))))) : rz mM_shifted 147 [(0, .ref 116), (2, .int a2), (3, .int a3)] [.int s0, .int s1, .ref 116] S (rz_i K) := by
  refine rz_callVv (t := [.int s0, .int s1]) d_M_shifted_147 w_12_656 rfl rfl rfl w (fun Sq1 q1 => ?_)
  refine rz_pure (pc' := 151) d_M_shifted_150 rfl ?_
  refine rz_pure (pc' := 152) d_M_shifted_151 rfl ?_
  refine rz_iconst (v := 1) d_M_shifted_152 (by decide) ?_
  refine rz_ishr d_M_shifted_153 ?_
  refine rz_pure (pc' := 155) d_M_shifted_154 rfl ?_
  refine rz_bipush (v := 7) d_M_shifted_155 (by decide) ?_
  refine rz_ishl d_M_shifted_157 ?_
  refine rz_ior d_M_shifted_158 ?_
  refine rz_callVi (t := [.int ((a2 >>> ((1 : Int32) &&& 31)) ||| (a3 <<< ((7 : Int32) &&& 31)))]) d_M_shifted_159 w_12_669 rfl rfl rfl q1 (fun xq2 Sq2 q2 => ?_)
  exact rz_ireti d_M_shifted_162 rfl rfl q2
