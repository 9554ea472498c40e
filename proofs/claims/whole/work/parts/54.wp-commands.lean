/-! what each block of the code asks (printed by wpgen.py) -/
theorem p_X_feed_0 {S : rz_S} {K : Int32 → rz_S → Prop} {a1 : Int32} {a2 : Int32} {a3 : Int32} {a4 : Int32} {a5 : Int32} (w : (((S.2 1 1) + 20 ≤ 400 → rz_ev mTape_add [.ref 1, .int a1] S (rz_v (fun Sq2 => rz_ev mTape_add [.ref 1, .int a2] Sq2 (rz_v (fun Sq3 => rz_ev mTape_add [.ref 1, .int a3] Sq3 (rz_v (fun Sq4 => rz_ev mTape_add [.ref 1, .int a4] Sq4 (rz_v (fun Sq5 => rz_ev mTape_add [.ref 1, .int a5] Sq5 (rz_v (fun Sq6 => K (Sq6.2 1 1) Sq6))))))))))) ∧ (¬ (S.2 1 1) + 20 ≤ 400 → K (-1) S))) : rz mX_feed 0 [(0, .ref 0), (1, .int a1), (2, .int a2), (3, .int a3), (4, .int a4), (5, .int a5)] [] S (rz_i K) := by
  refine rz_pure (pc' := 1) d_X_feed_0 rfl ?_
  refine rz_getr d_X_feed_1 f_11_10 rfl rfl ?_
  refine rz_getiv (v := S.2 1 1) d_X_feed_4 f_11_69 rfl rfl rfl ?_
  refine rz_bipush (v := 20) d_X_feed_7 (by decide) ?_
  refine rz_iadd d_X_feed_9 ?_
  refine rz_sipush (v := 400) d_X_feed_10 (by decide) ?_
  refine rz_icmple (tgt := 18) d_X_feed_13 rfl (fun b1 => ?_) (fun b1 => ?_)
  · skip
    refine rz_pure (pc' := 19) d_X_feed_18 rfl ?_
    refine rz_getr d_X_feed_19 f_11_10 rfl rfl ?_
    refine rz_pure (pc' := 23) d_X_feed_22 rfl ?_
    refine rz_callVv (t := [.int a1]) d_X_feed_23 w_11_72 rfl rfl rfl (w.1 b1) (fun Sq2 q2 => ?_)
    refine rz_pure (pc' := 27) d_X_feed_26 rfl ?_
    refine rz_getr d_X_feed_27 f_11_10 rfl rfl ?_
    refine rz_pure (pc' := 31) d_X_feed_30 rfl ?_
    refine rz_callVv (t := [.int a2]) d_X_feed_31 w_11_72 rfl rfl rfl q2 (fun Sq3 q3 => ?_)
    refine rz_pure (pc' := 35) d_X_feed_34 rfl ?_
    refine rz_getr d_X_feed_35 f_11_10 rfl rfl ?_
    refine rz_pure (pc' := 39) d_X_feed_38 rfl ?_
    refine rz_callVv (t := [.int a3]) d_X_feed_39 w_11_72 rfl rfl rfl q3 (fun Sq4 q4 => ?_)
    refine rz_pure (pc' := 43) d_X_feed_42 rfl ?_
    refine rz_getr d_X_feed_43 f_11_10 rfl rfl ?_
    refine rz_pure (pc' := 48) d_X_feed_46 rfl ?_
    refine rz_callVv (t := [.int a4]) d_X_feed_48 w_11_72 rfl rfl rfl q4 (fun Sq5 q5 => ?_)
    refine rz_pure (pc' := 52) d_X_feed_51 rfl ?_
    refine rz_getr d_X_feed_52 f_11_10 rfl rfl ?_
    refine rz_pure (pc' := 57) d_X_feed_55 rfl ?_
    refine rz_callVv (t := [.int a5]) d_X_feed_57 w_11_72 rfl rfl rfl q5 (fun Sq6 q6 => ?_)
    refine rz_pure (pc' := 61) d_X_feed_60 rfl ?_
    refine rz_getr d_X_feed_61 f_11_10 rfl rfl ?_
    refine rz_getiv (v := Sq6.2 1 1) d_X_feed_64 f_11_69 rfl rfl rfl ?_
    exact rz_ireti d_X_feed_67 rfl rfl q6
  · skip
    refine rz_iconst (v := -1) d_X_feed_16 (by decide) ?_
    exact rz_ireti d_X_feed_17 rfl rfl (w.2 b1)
theorem d_X_open_0 : decode (rm_code mX_open) 0 = .ok (.aload_n 0, 1) := by decide +kernel
theorem d_X_open_1 : decode (rm_code mX_open) 1 = .ok (.iload_n 1, 1) := by decide +kernel
theorem d_X_open_2 : decode (rm_code mX_open) 2 = .ok (.iload_n 2, 1) := by decide +kernel
theorem d_X_open_3 : decode (rm_code mX_open) 3 = .ok (.invokevirtual 76, 3) := by decide +kernel
theorem d_X_open_6 : decode (rm_code mX_open) 6 = .ok (.ifCond .ne (5), 3) := by decide +kernel
theorem d_X_open_9 : decode (rm_code mX_open) 9 = .ok (.iconst (-1), 1) := by decide +kernel
theorem d_X_open_10 : decode (rm_code mX_open) 10 = .ok (.ireturn, 1) := by decide +kernel
theorem d_X_open_11 : decode (rm_code mX_open) 11 = .ok (.iload_n 1, 1) := by decide +kernel
theorem d_X_open_12 : decode (rm_code mX_open) 12 = .ok (.bipush (15), 2) := by decide +kernel
theorem d_X_open_14 : decode (rm_code mX_open) 14 = .ok (.if_icmp .ne (19), 3) := by decide +kernel
theorem d_X_open_17 : decode (rm_code mX_open) 17 = .ok (.aload_n 0, 1) := by decide +kernel
theorem d_X_open_18 : decode (rm_code mX_open) 18 = .ok (.getfield 53, 3) := by decide +kernel
theorem d_X_open_21 : decode (rm_code mX_open) 21 = .ok (.invokevirtual 80, 3) := by decide +kernel
theorem d_X_open_24 : decode (rm_code mX_open) 24 = .ok (.pop, 1) := by decide +kernel
theorem d_X_open_25 : decode (rm_code mX_open) 25 = .ok (.aload_n 0, 1) := by decide +kernel
theorem d_X_open_26 : decode (rm_code mX_open) 26 = .ok (.getfield 19, 3) := by decide +kernel
theorem d_X_open_29 : decode (rm_code mX_open) 29 = .ok (.getfield 84, 3) := by decide +kernel
theorem d_X_open_32 : decode (rm_code mX_open) 32 = .ok (.ireturn, 1) := by decide +kernel
theorem d_X_open_33 : decode (rm_code mX_open) 33 = .ok (.aload_n 0, 1) := by decide +kernel
theorem d_X_open_34 : decode (rm_code mX_open) 34 = .ok (.getfield 19, 3) := by decide +kernel
theorem d_X_open_37 : decode (rm_code mX_open) 37 = .ok (.invokevirtual 87, 3) := by decide +kernel
theorem d_X_open_40 : decode (rm_code mX_open) 40 = .ok (.iload_n 2, 1) := by decide +kernel
theorem d_X_open_41 : decode (rm_code mX_open) 41 = .ok (.bipush (40), 2) := by decide +kernel
theorem d_X_open_43 : decode (rm_code mX_open) 43 = .ok (.if_icmp .le (15), 3) := by decide +kernel
theorem d_X_open_46 : decode (rm_code mX_open) 46 = .ok (.aload_n 0, 1) := by decide +kernel
theorem d_X_open_47 : decode (rm_code mX_open) 47 = .ok (.getfield 19, 3) := by decide +kernel
theorem d_X_open_50 : decode (rm_code mX_open) 50 = .ok (.bipush (32), 2) := by decide +kernel
theorem d_X_open_52 : decode (rm_code mX_open) 52 = .ok (.iconst 0, 1) := by decide +kernel
theorem d_X_open_53 : decode (rm_code mX_open) 53 = .ok (.iconst 0, 1) := by decide +kernel
theorem d_X_open_54 : decode (rm_code mX_open) 54 = .ok (.invokevirtual 90, 3) := by decide +kernel
theorem d_X_open_57 : decode (rm_code mX_open) 57 = .ok (.ireturn, 1) := by decide +kernel
theorem d_X_open_58 : decode (rm_code mX_open) 58 = .ok (.aload_n 0, 1) := by decide +kernel
theorem d_X_open_59 : decode (rm_code mX_open) 59 = .ok (.getfield 44, 3) := by decide +kernel
theorem d_X_open_62 : decode (rm_code mX_open) 62 = .ok (.iload_n 1, 1) := by decide +kernel
theorem d_X_open_63 : decode (rm_code mX_open) 63 = .ok (.invokevirtual 94, 3) := by decide +kernel
theorem d_X_open_66 : decode (rm_code mX_open) 66 = .ok (.pop, 1) := by decide +kernel
theorem d_X_open_67 : decode (rm_code mX_open) 67 = .ok (.aload_n 0, 1) := by decide +kernel
theorem d_X_open_68 : decode (rm_code mX_open) 68 = .ok (.getfield 19, 3) := by decide +kernel
theorem d_X_open_71 : decode (rm_code mX_open) 71 = .ok (.getfield 84, 3) := by decide +kernel
theorem d_X_open_74 : decode (rm_code mX_open) 74 = .ok (.ireturn, 1) := by decide +kernel
theorem p_X_open_0 {S : rz_S} {K : Int32 → rz_S → Prop} {a1 : Int32} {a2 : Int32} (w : rz_ev mX_sendText [.ref 0, .int a1, .int a2] S (rz_i (fun xq1 Sq1 => ((xq1 = 0 → K (-1) Sq1) ∧ (¬ xq1 = 0 → ((a1 = 15 → rz_ev mCommands_run [.ref 108] Sq1 (rz_i (fun xq8 Sq8 => K (Sq8.2 3 0) Sq8))) ∧ (¬ a1 = 15 → rz_ev mStatus_begin [.ref 3] Sq1 (rz_v (fun Sq4 => ((a2 ≤ 40 → rz_ev mDos_openChannel [.ref 39, .int a1] Sq4 (rz_i (fun xq6 Sq6 => K (Sq6.2 3 0) Sq6))) ∧ (¬ a2 ≤ 40 → rz_ev mStatus_set [.ref 3, .int 32, .int 0, .int 0] Sq4 (rz_i (fun xq7 Sq7 => K xq7 Sq7))))))))))))) : rz mX_open 0 [(0, .ref 0), (1, .int a1), (2, .int a2)] [] S (rz_i K) := by
  refine rz_pure (pc' := 1) d_X_open_0 rfl ?_
  refine rz_pure (pc' := 2) d_X_open_1 rfl ?_
  refine rz_pure (pc' := 3) d_X_open_2 rfl ?_
  refine rz_callVi (t := [.int a2, .int a1]) d_X_open_3 w_11_76 rfl rfl rfl w (fun xq1 Sq1 q1 => ?_)
  refine rz_ifne (tgt := 11) d_X_open_6 rfl (fun b2 => ?_) (fun b2 => ?_)
  · skip
    refine rz_pure (pc' := 12) d_X_open_11 rfl ?_
    refine rz_bipush (v := 15) d_X_open_12 (by decide) ?_
    refine rz_icmpne (tgt := 33) d_X_open_14 rfl (fun b3 => ?_) (fun b3 => ?_)
    · skip
      refine rz_pure (pc' := 34) d_X_open_33 rfl ?_
      refine rz_getr d_X_open_34 f_11_19 rfl rfl ?_
      refine rz_callVv (t := []) d_X_open_37 w_11_87 rfl rfl rfl ((q1.2 b2).2 b3) (fun Sq4 q4 => ?_)
      refine rz_pure (pc' := 41) d_X_open_40 rfl ?_
      refine rz_bipush (v := 40) d_X_open_41 (by decide) ?_
      refine rz_icmple (tgt := 58) d_X_open_43 rfl (fun b5 => ?_) (fun b5 => ?_)
      · skip
        refine rz_pure (pc' := 59) d_X_open_58 rfl ?_
        refine rz_getr d_X_open_59 f_11_44 rfl rfl ?_
        refine rz_pure (pc' := 63) d_X_open_62 rfl ?_
        refine rz_callVi (t := [.int a1]) d_X_open_63 w_11_94 rfl rfl rfl (q4.1 b5) (fun xq6 Sq6 q6 => ?_)
        refine rz_pure (pc' := 67) d_X_open_66 rfl ?_
        refine rz_pure (pc' := 68) d_X_open_67 rfl ?_
        refine rz_getr d_X_open_68 f_11_19 rfl rfl ?_
        refine rz_getiv (v := Sq6.2 3 0) d_X_open_71 f_11_84 rfl rfl rfl ?_
        exact rz_ireti d_X_open_74 rfl rfl q6
      · skip
        refine rz_pure (pc' := 47) d_X_open_46 rfl ?_
        refine rz_getr d_X_open_47 f_11_19 rfl rfl ?_
        refine rz_bipush (v := 32) d_X_open_50 (by decide) ?_
        refine rz_iconst (v := 0) d_X_open_52 (by decide) ?_
        refine rz_iconst (v := 0) d_X_open_53 (by decide) ?_
        refine rz_callVi (t := [.int 0, .int 0, .int 32]) d_X_open_54 w_11_90 rfl rfl rfl (q4.2 b5) (fun xq7 Sq7 q7 => ?_)
        exact rz_ireti d_X_open_57 rfl rfl q7
    · skip
      refine rz_pure (pc' := 18) d_X_open_17 rfl ?_
      refine rz_getr d_X_open_18 f_11_53 rfl rfl ?_
      refine rz_callVi (t := []) d_X_open_21 w_11_80 rfl rfl rfl ((q1.2 b2).1 b3) (fun xq8 Sq8 q8 => ?_)
      refine rz_pure (pc' := 25) d_X_open_24 rfl ?_
      refine rz_pure (pc' := 26) d_X_open_25 rfl ?_
      refine rz_getr d_X_open_26 f_11_19 rfl rfl ?_
      refine rz_getiv (v := Sq8.2 3 0) d_X_open_29 f_11_84 rfl rfl rfl ?_
      exact rz_ireti d_X_open_32 rfl rfl q8
  · skip
    refine rz_iconst (v := -1) d_X_open_9 (by decide) ?_
    exact rz_ireti d_X_open_10 rfl rfl (q1.1 b2)
theorem d_X_sendText_0 : decode (rm_code mX_sendText) 0 = .ok (.iload_n 1, 1) := by decide +kernel
theorem d_X_sendText_1 : decode (rm_code mX_sendText) 1 = .ok (.invokestatic 101, 3) := by decide +kernel
theorem d_X_sendText_4 : decode (rm_code mX_sendText) 4 = .ok (.ifCond .eq (14), 3) := by decide +kernel
theorem d_X_sendText_7 : decode (rm_code mX_sendText) 7 = .ok (.aload_n 0, 1) := by decide +kernel
theorem d_X_sendText_8 : decode (rm_code mX_sendText) 8 = .ok (.getfield 10, 3) := by decide +kernel
theorem d_X_sendText_11 : decode (rm_code mX_sendText) 11 = .ok (.iload_n 2, 1) := by decide +kernel
theorem d_X_sendText_12 : decode (rm_code mX_sendText) 12 = .ok (.invokevirtual 189, 3) := by decide +kernel
theorem d_X_sendText_15 : decode (rm_code mX_sendText) 15 = .ok (.ifCond .ne (5), 3) := by decide +kernel
theorem d_X_sendText_18 : decode (rm_code mX_sendText) 18 = .ok (.iconst 0, 1) := by decide +kernel
theorem d_X_sendText_19 : decode (rm_code mX_sendText) 19 = .ok (.ireturn, 1) := by decide +kernel
theorem d_X_sendText_20 : decode (rm_code mX_sendText) 20 = .ok (.aload_n 0, 1) := by decide +kernel
theorem d_X_sendText_21 : decode (rm_code mX_sendText) 21 = .ok (.getfield 10, 3) := by decide +kernel
theorem d_X_sendText_24 : decode (rm_code mX_sendText) 24 = .ok (.iload_n 2, 1) := by decide +kernel
theorem d_X_sendText_25 : decode (rm_code mX_sendText) 25 = .ok (.invokevirtual 192, 3) := by decide +kernel
theorem d_X_sendText_28 : decode (rm_code mX_sendText) 28 = .ok (.iconst 1, 1) := by decide +kernel
theorem d_X_sendText_29 : decode (rm_code mX_sendText) 29 = .ok (.ireturn, 1) := by decide +kernel
theorem p_X_sendText_0 {S : rz_S} {K : Int32 → rz_S → Prop} {a1 : Int32} {a2 : Int32} (w : rz_ev mX_isChannel [.int a1] S (rz_i (fun xq1 Sq1 => ((xq1 = 0 → K 0 Sq1) ∧ (¬ xq1 = 0 → rz_ev mTape_has [.ref 1, .int a2] Sq1 (rz_i (fun xq3 Sq3 => ((xq3 = 0 → K 0 Sq3) ∧ (¬ xq3 = 0 → rz_ev mTape_send [.ref 1, .int a2] Sq3 (rz_v (fun Sq5 => K 1 Sq5))))))))))) : rz mX_sendText 0 [(0, .ref 0), (1, .int a1), (2, .int a2)] [] S (rz_i K) := by
  refine rz_pure (pc' := 1) d_X_sendText_0 rfl ?_
  refine rz_callSi (t := [.int a1]) d_X_sendText_1 rfl w_11_101 rfl rfl w (fun xq1 Sq1 q1 => ?_)
  refine rz_ifeq (tgt := 18) d_X_sendText_4 rfl (fun b2 => ?_) (fun b2 => ?_)
  · skip
    refine rz_iconst (v := 0) d_X_sendText_18 (by decide) ?_
    exact rz_ireti d_X_sendText_19 rfl (by decide) (q1.1 b2)
  · skip
    refine rz_pure (pc' := 8) d_X_sendText_7 rfl ?_
    refine rz_getr d_X_sendText_8 f_11_10 rfl rfl ?_
    refine rz_pure (pc' := 12) d_X_sendText_11 rfl ?_
    refine rz_callVi (t := [.int a2]) d_X_sendText_12 w_11_189 rfl rfl rfl (q1.2 b2) (fun xq3 Sq3 q3 => ?_)
    refine rz_ifne (tgt := 20) d_X_sendText_15 rfl (fun b4 => ?_) (fun b4 => ?_)
    · skip
      refine rz_pure (pc' := 21) d_X_sendText_20 rfl ?_
      refine rz_getr d_X_sendText_21 f_11_10 rfl rfl ?_
      refine rz_pure (pc' := 25) d_X_sendText_24 rfl ?_
      refine rz_callVv (t := [.int a2]) d_X_sendText_25 w_11_192 rfl rfl rfl (q3.2 b4) (fun Sq5 q5 => ?_)
      refine rz_iconst (v := 1) d_X_sendText_28 (by decide) ?_
      exact rz_ireti d_X_sendText_29 rfl (by decide) q5
    · skip
      refine rz_iconst (v := 0) d_X_sendText_18 (by decide) ?_
      exact rz_ireti d_X_sendText_19 rfl (by decide) (q3.1 b4)
theorem d_X_isChannel_0 : decode (rm_code mX_isChannel) 0 = .ok (.iload_n 0, 1) := by decide +kernel
theorem d_X_isChannel_1 : decode (rm_code mX_isChannel) 1 = .ok (.ifCond .lt (13), 3) := by decide +kernel
theorem d_X_isChannel_4 : decode (rm_code mX_isChannel) 4 = .ok (.iload_n 0, 1) := by decide +kernel
theorem d_X_isChannel_5 : decode (rm_code mX_isChannel) 5 = .ok (.bipush (15), 2) := by decide +kernel
theorem d_X_isChannel_7 : decode (rm_code mX_isChannel) 7 = .ok (.if_icmp .gt (7), 3) := by decide +kernel
theorem d_X_isChannel_10 : decode (rm_code mX_isChannel) 10 = .ok (.iconst 1, 1) := by decide +kernel
theorem d_X_isChannel_11 : decode (rm_code mX_isChannel) 11 = .ok (.goto (4), 3) := by decide +kernel
theorem d_X_isChannel_14 : decode (rm_code mX_isChannel) 14 = .ok (.iconst 0, 1) := by decide +kernel
theorem d_X_isChannel_15 : decode (rm_code mX_isChannel) 15 = .ok (.ireturn, 1) := by decide +kernel
theorem p_X_isChannel_0 {S : rz_S} {K : Int32 → rz_S → Prop} {a0 : Int32} (w : ((a0 < 0 → K 0 S) ∧ (¬ a0 < 0 → ((15 < a0 → K 0 S) ∧ (¬ 15 < a0 → K 1 S))))) : rz mX_isChannel 0 [(0, .int a0)] [] S (rz_i K) := by
  refine rz_pure (pc' := 1) d_X_isChannel_0 rfl ?_
  refine rz_iflt (tgt := 14) d_X_isChannel_1 rfl (fun b1 => ?_) (fun b1 => ?_)
  · skip
    refine rz_iconst (v := 0) d_X_isChannel_14 (by decide) ?_
    exact rz_ireti d_X_isChannel_15 rfl (by decide) (w.1 b1)
  · skip
    refine rz_pure (pc' := 5) d_X_isChannel_4 rfl ?_
    refine rz_bipush (v := 15) d_X_isChannel_5 (by decide) ?_
    refine rz_icmpgt (tgt := 14) d_X_isChannel_7 rfl (fun b2 => ?_) (fun b2 => ?_)
    · skip
      refine rz_iconst (v := 0) d_X_isChannel_14 (by decide) ?_
      exact rz_ireti d_X_isChannel_15 rfl (by decide) ((w.2 b1).1 b2)
    · skip
      refine rz_iconst (v := 1) d_X_isChannel_10 (by decide) ?_
      refine rz_pure (pc' := 15) d_X_isChannel_11 rfl ?_
      exact rz_ireti d_X_isChannel_15 rfl (by decide) ((w.2 b1).2 b2)
theorem d_Commands_run_0 : decode (rm_code mCommands_run) 0 = .ok (.aload_n 0, 1) := by decide +kernel
theorem d_Commands_run_1 : decode (rm_code mCommands_run) 1 = .ok (.getfield 48, 3) := by decide +kernel
theorem d_Commands_run_4 : decode (rm_code mCommands_run) 4 = .ok (.getfield 62, 3) := by decide +kernel
theorem d_Commands_run_7 : decode (rm_code mCommands_run) 7 = .ok (.ifCond .ne (5), 3) := by decide +kernel
theorem d_Commands_run_10 : decode (rm_code mCommands_run) 10 = .ok (.iconst 0, 1) := by decide +kernel
theorem d_Commands_run_11 : decode (rm_code mCommands_run) 11 = .ok (.ireturn, 1) := by decide +kernel
theorem d_Commands_run_12 : decode (rm_code mCommands_run) 12 = .ok (.aload_n 0, 1) := by decide +kernel
theorem d_Commands_run_13 : decode (rm_code mCommands_run) 13 = .ok (.getfield 38, 3) := by decide +kernel
theorem d_Commands_run_16 : decode (rm_code mCommands_run) 16 = .ok (.invokevirtual 68, 3) := by decide +kernel
theorem d_Commands_run_19 : decode (rm_code mCommands_run) 19 = .ok (.aload_n 0, 1) := by decide +kernel
theorem d_Commands_run_20 : decode (rm_code mCommands_run) 20 = .ok (.getfield 48, 3) := by decide +kernel
theorem d_Commands_run_23 : decode (rm_code mCommands_run) 23 = .ok (.getfield 62, 3) := by decide +kernel
theorem d_Commands_run_26 : decode (rm_code mCommands_run) 26 = .ok (.bipush (40), 2) := by decide +kernel
theorem d_Commands_run_28 : decode (rm_code mCommands_run) 28 = .ok (.if_icmp .le (15), 3) := by decide +kernel
theorem d_Commands_run_31 : decode (rm_code mCommands_run) 31 = .ok (.aload_n 0, 1) := by decide +kernel
theorem d_Commands_run_32 : decode (rm_code mCommands_run) 32 = .ok (.getfield 38, 3) := by decide +kernel
theorem d_Commands_run_35 : decode (rm_code mCommands_run) 35 = .ok (.bipush (32), 2) := by decide +kernel
theorem d_Commands_run_37 : decode (rm_code mCommands_run) 37 = .ok (.iconst 0, 1) := by decide +kernel
theorem d_Commands_run_38 : decode (rm_code mCommands_run) 38 = .ok (.iconst 0, 1) := by decide +kernel
theorem d_Commands_run_39 : decode (rm_code mCommands_run) 39 = .ok (.invokevirtual 73, 3) := by decide +kernel
theorem d_Commands_run_42 : decode (rm_code mCommands_run) 42 = .ok (.ireturn, 1) := by decide +kernel
theorem d_Commands_run_43 : decode (rm_code mCommands_run) 43 = .ok (.aload_n 0, 1) := by decide +kernel
theorem d_Commands_run_44 : decode (rm_code mCommands_run) 44 = .ok (.getfield 48, 3) := by decide +kernel
theorem d_Commands_run_47 : decode (rm_code mCommands_run) 47 = .ok (.iconst 0, 1) := by decide +kernel
theorem d_Commands_run_48 : decode (rm_code mCommands_run) 48 = .ok (.invokevirtual 77, 3) := by decide +kernel
theorem d_Commands_run_51 : decode (rm_code mCommands_run) 51 = .ok (.tableswitch (213) (66) (86) #[(163), (213), (213), (213), (213), (213), (213), (112), (213), (213), (213), (188), (97), (213), (213), (213), (107), (102), (213), (158), (135)], 97) := by decide +kernel
theorem d_Commands_run_148 : decode (rm_code mCommands_run) 148 = .ok (.aload_n 0, 1) := by decide +kernel
theorem d_Commands_run_149 : decode (rm_code mCommands_run) 149 = .ok (.invokevirtual 81, 3) := by decide +kernel
theorem d_Commands_run_152 : decode (rm_code mCommands_run) 152 = .ok (.ireturn, 1) := by decide +kernel
theorem d_Commands_run_153 : decode (rm_code mCommands_run) 153 = .ok (.aload_n 0, 1) := by decide +kernel
theorem d_Commands_run_154 : decode (rm_code mCommands_run) 154 = .ok (.invokevirtual 85, 3) := by decide +kernel
theorem d_Commands_run_157 : decode (rm_code mCommands_run) 157 = .ok (.ireturn, 1) := by decide +kernel
theorem d_Commands_run_158 : decode (rm_code mCommands_run) 158 = .ok (.aload_n 0, 1) := by decide +kernel
theorem d_Commands_run_159 : decode (rm_code mCommands_run) 159 = .ok (.invokevirtual 88, 3) := by decide +kernel
theorem d_Commands_run_162 : decode (rm_code mCommands_run) 162 = .ok (.ireturn, 1) := by decide +kernel
theorem d_Commands_run_163 : decode (rm_code mCommands_run) 163 = .ok (.aload_n 0, 1) := by decide +kernel
theorem d_Commands_run_164 : decode (rm_code mCommands_run) 164 = .ok (.getfield 48, 3) := by decide +kernel
theorem d_Commands_run_167 : decode (rm_code mCommands_run) 167 = .ok (.getfield 62, 3) := by decide +kernel
theorem d_Commands_run_170 : decode (rm_code mCommands_run) 170 = .ok (.iconst 1, 1) := by decide +kernel
theorem d_Commands_run_171 : decode (rm_code mCommands_run) 171 = .ok (.if_icmp .ne (10), 3) := by decide +kernel
theorem d_Commands_run_174 : decode (rm_code mCommands_run) 174 = .ok (.aload_n 0, 1) := by decide +kernel
theorem d_Commands_run_175 : decode (rm_code mCommands_run) 175 = .ok (.invokevirtual 91, 3) := by decide +kernel
theorem d_Commands_run_178 : decode (rm_code mCommands_run) 178 = .ok (.goto (7), 3) := by decide +kernel
theorem d_Commands_run_181 : decode (rm_code mCommands_run) 181 = .ok (.aload_n 0, 1) := by decide +kernel
theorem d_Commands_run_182 : decode (rm_code mCommands_run) 182 = .ok (.invokevirtual 94, 3) := by decide +kernel
theorem d_Commands_run_185 : decode (rm_code mCommands_run) 185 = .ok (.ireturn, 1) := by decide +kernel
theorem d_Commands_run_186 : decode (rm_code mCommands_run) 186 = .ok (.aload_n 0, 1) := by decide +kernel
theorem d_Commands_run_187 : decode (rm_code mCommands_run) 187 = .ok (.getfield 48, 3) := by decide +kernel
theorem d_Commands_run_190 : decode (rm_code mCommands_run) 190 = .ok (.getfield 62, 3) := by decide +kernel
theorem d_Commands_run_193 : decode (rm_code mCommands_run) 193 = .ok (.iconst 1, 1) := by decide +kernel
theorem d_Commands_run_194 : decode (rm_code mCommands_run) 194 = .ok (.if_icmp .ne (10), 3) := by decide +kernel
theorem d_Commands_run_197 : decode (rm_code mCommands_run) 197 = .ok (.aload_n 0, 1) := by decide +kernel
theorem d_Commands_run_198 : decode (rm_code mCommands_run) 198 = .ok (.invokevirtual 97, 3) := by decide +kernel
theorem d_Commands_run_201 : decode (rm_code mCommands_run) 201 = .ok (.goto (7), 3) := by decide +kernel
theorem d_Commands_run_204 : decode (rm_code mCommands_run) 204 = .ok (.aload_n 0, 1) := by decide +kernel
theorem d_Commands_run_205 : decode (rm_code mCommands_run) 205 = .ok (.invokevirtual 94, 3) := by decide +kernel
theorem d_Commands_run_208 : decode (rm_code mCommands_run) 208 = .ok (.ireturn, 1) := by decide +kernel
theorem d_Commands_run_209 : decode (rm_code mCommands_run) 209 = .ok (.aload_n 0, 1) := by decide +kernel
theorem d_Commands_run_210 : decode (rm_code mCommands_run) 210 = .ok (.invokevirtual 100, 3) := by decide +kernel
theorem d_Commands_run_213 : decode (rm_code mCommands_run) 213 = .ok (.ireturn, 1) := by decide +kernel
theorem d_Commands_run_214 : decode (rm_code mCommands_run) 214 = .ok (.aload_n 0, 1) := by decide +kernel
theorem d_Commands_run_215 : decode (rm_code mCommands_run) 215 = .ok (.getfield 48, 3) := by decide +kernel
theorem d_Commands_run_218 : decode (rm_code mCommands_run) 218 = .ok (.iconst 1, 1) := by decide +kernel
theorem d_Commands_run_219 : decode (rm_code mCommands_run) 219 = .ok (.invokevirtual 77, 3) := by decide +kernel
theorem d_Commands_run_222 : decode (rm_code mCommands_run) 222 = .ok (.bipush (45), 2) := by decide +kernel
theorem d_Commands_run_224 : decode (rm_code mCommands_run) 224 = .ok (.if_icmp .ne (10), 3) := by decide +kernel
theorem d_Commands_run_227 : decode (rm_code mCommands_run) 227 = .ok (.aload_n 0, 1) := by decide +kernel
theorem d_Commands_run_228 : decode (rm_code mCommands_run) 228 = .ok (.invokevirtual 103, 3) := by decide +kernel
theorem d_Commands_run_231 : decode (rm_code mCommands_run) 231 = .ok (.goto (7), 3) := by decide +kernel
theorem d_Commands_run_234 : decode (rm_code mCommands_run) 234 = .ok (.aload_n 0, 1) := by decide +kernel
theorem d_Commands_run_235 : decode (rm_code mCommands_run) 235 = .ok (.invokevirtual 94, 3) := by decide +kernel
theorem d_Commands_run_238 : decode (rm_code mCommands_run) 238 = .ok (.ireturn, 1) := by decide +kernel
theorem d_Commands_run_239 : decode (rm_code mCommands_run) 239 = .ok (.aload_n 0, 1) := by decide +kernel
theorem d_Commands_run_240 : decode (rm_code mCommands_run) 240 = .ok (.getfield 48, 3) := by decide +kernel
theorem d_Commands_run_243 : decode (rm_code mCommands_run) 243 = .ok (.iconst 1, 1) := by decide +kernel
theorem d_Commands_run_244 : decode (rm_code mCommands_run) 244 = .ok (.invokevirtual 77, 3) := by decide +kernel
theorem d_Commands_run_247 : decode (rm_code mCommands_run) 247 = .ok (.bipush (45), 2) := by decide +kernel
theorem d_Commands_run_249 : decode (rm_code mCommands_run) 249 = .ok (.if_icmp .ne (10), 3) := by decide +kernel
theorem d_Commands_run_252 : decode (rm_code mCommands_run) 252 = .ok (.aload_n 0, 1) := by decide +kernel
theorem d_Commands_run_253 : decode (rm_code mCommands_run) 253 = .ok (.invokevirtual 106, 3) := by decide +kernel
theorem d_Commands_run_256 : decode (rm_code mCommands_run) 256 = .ok (.goto (7), 3) := by decide +kernel
theorem d_Commands_run_259 : decode (rm_code mCommands_run) 259 = .ok (.aload_n 0, 1) := by decide +kernel
theorem d_Commands_run_260 : decode (rm_code mCommands_run) 260 = .ok (.invokevirtual 94, 3) := by decide +kernel
theorem d_Commands_run_263 : decode (rm_code mCommands_run) 263 = .ok (.ireturn, 1) := by decide +kernel
theorem d_Commands_run_264 : decode (rm_code mCommands_run) 264 = .ok (.aload_n 0, 1) := by decide +kernel
theorem d_Commands_run_265 : decode (rm_code mCommands_run) 265 = .ok (.invokevirtual 94, 3) := by decide +kernel
theorem d_Commands_run_268 : decode (rm_code mCommands_run) 268 = .ok (.ireturn, 1) := by decide +kernel
theorem p_Commands_run_0 {S : rz_S} {K : Int32 → rz_S → Prop} (w : ((S.2 1 2 = 0 → K 0 S) ∧ (¬ S.2 1 2 = 0 → rz_ev mStatus_begin [.ref 3] S (rz_v (fun Sq2 => ((Sq2.2 1 2 ≤ 40 → rz_ev mTape_byteAt [.ref 1, .int 0] Sq2 (rz_i (fun xq4 Sq4 => ((xq4.toInt < 66 ∨ 86 < xq4.toInt → rz_ev mCommands_unknown [.ref 108] Sq4 (rz_i (fun xq5 Sq5 => K xq5 Sq5))) ∧ (xq4 = 66 → rz_ev mTape_byteAt [.ref 1, .int 1] Sq4 (rz_i (fun xq6 Sq6 => ((xq6 = 45 → rz_ev mCommands_block [.ref 108] Sq6 (rz_i (fun xq9 Sq9 => K xq9 Sq9))) ∧ (¬ xq6 = 45 → rz_ev mCommands_unknown [.ref 108] Sq6 (rz_i (fun xq8 Sq8 => K xq8 Sq8))))))) ∧ (xq4 = 67 → rz_ev mCommands_unknown [.ref 108] Sq4 (rz_i (fun xq10 Sq10 => K xq10 Sq10))) ∧ (xq4 = 68 → rz_ev mCommands_unknown [.ref 108] Sq4 (rz_i (fun xq11 Sq11 => K xq11 Sq11))) ∧ (xq4 = 69 → rz_ev mCommands_unknown [.ref 108] Sq4 (rz_i (fun xq12 Sq12 => K xq12 Sq12))) ∧ (xq4 = 70 → rz_ev mCommands_unknown [.ref 108] Sq4 (rz_i (fun xq13 Sq13 => K xq13 Sq13))) ∧ (xq4 = 71 → rz_ev mCommands_unknown [.ref 108] Sq4 (rz_i (fun xq14 Sq14 => K xq14 Sq14))) ∧ (xq4 = 72 → rz_ev mCommands_unknown [.ref 108] Sq4 (rz_i (fun xq15 Sq15 => K xq15 Sq15))) ∧ (xq4 = 73 → ((Sq4.2 1 2 = 1 → rz_ev mCommands_initialise [.ref 108] Sq4 (rz_i (fun xq18 Sq18 => K xq18 Sq18))) ∧ (¬ Sq4.2 1 2 = 1 → rz_ev mCommands_unknown [.ref 108] Sq4 (rz_i (fun xq17 Sq17 => K xq17 Sq17))))) ∧ (xq4 = 74 → rz_ev mCommands_unknown [.ref 108] Sq4 (rz_i (fun xq19 Sq19 => K xq19 Sq19))) ∧ (xq4 = 75 → rz_ev mCommands_unknown [.ref 108] Sq4 (rz_i (fun xq20 Sq20 => K xq20 Sq20))) ∧ (xq4 = 76 → rz_ev mCommands_unknown [.ref 108] Sq4 (rz_i (fun xq21 Sq21 => K xq21 Sq21))) ∧ (xq4 = 77 → rz_ev mTape_byteAt [.ref 1, .int 1] Sq4 (rz_i (fun xq22 Sq22 => ((xq22 = 45 → rz_ev mCommands_program [.ref 108] Sq22 (rz_i (fun xq25 Sq25 => K xq25 Sq25))) ∧ (¬ xq22 = 45 → rz_ev mCommands_unknown [.ref 108] Sq22 (rz_i (fun xq24 Sq24 => K xq24 Sq24))))))) ∧ (xq4 = 78 → rz_ev mCommands_newDisk [.ref 108] Sq4 (rz_i (fun xq26 Sq26 => K xq26 Sq26))) ∧ (xq4 = 79 → rz_ev mCommands_unknown [.ref 108] Sq4 (rz_i (fun xq27 Sq27 => K xq27 Sq27))) ∧ (xq4 = 80 → rz_ev mCommands_unknown [.ref 108] Sq4 (rz_i (fun xq28 Sq28 => K xq28 Sq28))) ∧ (xq4 = 81 → rz_ev mCommands_unknown [.ref 108] Sq4 (rz_i (fun xq29 Sq29 => K xq29 Sq29))) ∧ (xq4 = 82 → rz_ev mCommands_rename [.ref 108] Sq4 (rz_i (fun xq30 Sq30 => K xq30 Sq30))) ∧ (xq4 = 83 → rz_ev mCommands_scratch [.ref 108] Sq4 (rz_i (fun xq31 Sq31 => K xq31 Sq31))) ∧ (xq4 = 84 → rz_ev mCommands_unknown [.ref 108] Sq4 (rz_i (fun xq32 Sq32 => K xq32 Sq32))) ∧ (xq4 = 85 → rz_ev mCommands_user [.ref 108] Sq4 (rz_i (fun xq33 Sq33 => K xq33 Sq33))) ∧ (xq4 = 86 → ((Sq4.2 1 2 = 1 → rz_ev mCommands_validate [.ref 108] Sq4 (rz_i (fun xq36 Sq36 => K xq36 Sq36))) ∧ (¬ Sq4.2 1 2 = 1 → rz_ev mCommands_unknown [.ref 108] Sq4 (rz_i (fun xq35 Sq35 => K xq35 Sq35))))))))) ∧ (¬ Sq2.2 1 2 ≤ 40 → rz_ev mStatus_set [.ref 3, .int 32, .int 0, .int 0] Sq2 (rz_i (fun xq37 Sq37 => K xq37 Sq37))))))))) : rz mCommands_run 0 [(0, .ref 108)] [] S (rz_i K) := by
  refine rz_pure (pc' := 1) d_Commands_run_0 rfl ?_
  refine rz_getr d_Commands_run_1 f_2_48 rfl rfl ?_
  refine rz_getiv (v := S.2 1 2) d_Commands_run_4 f_2_62 rfl rfl rfl ?_
  refine rz_ifne (tgt := 12) d_Commands_run_7 rfl (fun b1 => ?_) (fun b1 => ?_)
  · skip
    refine rz_pure (pc' := 13) d_Commands_run_12 rfl ?_
    refine rz_getr d_Commands_run_13 f_2_38 rfl rfl ?_
    refine rz_callVv (t := []) d_Commands_run_16 w_2_68 rfl rfl rfl (w.2 b1) (fun Sq2 q2 => ?_)
    refine rz_pure (pc' := 20) d_Commands_run_19 rfl ?_
    refine rz_getr d_Commands_run_20 f_2_48 rfl rfl ?_
    refine rz_getiv (v := Sq2.2 1 2) d_Commands_run_23 f_2_62 rfl rfl rfl ?_
    refine rz_bipush (v := 40) d_Commands_run_26 (by decide) ?_
    refine rz_icmple (tgt := 43) d_Commands_run_28 rfl (fun b3 => ?_) (fun b3 => ?_)
    · skip
      refine rz_pure (pc' := 44) d_Commands_run_43 rfl ?_
      refine rz_getr d_Commands_run_44 f_2_48 rfl rfl ?_
      refine rz_iconst (v := 0) d_Commands_run_47 (by decide) ?_
      refine rz_callVi (t := [.int 0]) d_Commands_run_48 w_2_77 rfl rfl rfl (q2.1 b3) (fun xq4 Sq4 q4 => ?_)
      refine rz_tsw (n := 21) (lo := 66) (tgt := 264) d_Commands_run_51 rfl rfl (fun b0 => ?_) (fun j hj hx => ?_)
      · skip
        refine rz_pure (pc' := 265) d_Commands_run_264 rfl ?_
        refine rz_callVi (t := []) d_Commands_run_265 w_2_94 rfl rfl rfl (q4.1 b0) (fun xq5 Sq5 q5 => ?_)
        exact rz_ireti d_Commands_run_268 rfl rfl q5
      · match j, hj with
        | 0, _ =>
          replace hx := hx.trans (show Int32.ofInt ((66 : Int) + ((0 : Nat) : Int)) = 66 from by decide)
          refine rz_tsj (tgt := 214) d_Commands_run_51 hx rfl ?_
          refine rz_pure (pc' := 215) d_Commands_run_214 rfl ?_
          refine rz_getr d_Commands_run_215 f_2_48 rfl rfl ?_
          refine rz_iconst (v := 1) d_Commands_run_218 (by decide) ?_
          refine rz_callVi (t := [.int 1]) d_Commands_run_219 w_2_77 rfl rfl rfl (q4.2.1 hx) (fun xq6 Sq6 q6 => ?_)
          refine rz_bipush (v := 45) d_Commands_run_222 (by decide) ?_
          refine rz_icmpne (tgt := 234) d_Commands_run_224 rfl (fun b7 => ?_) (fun b7 => ?_)
          · skip
            refine rz_pure (pc' := 235) d_Commands_run_234 rfl ?_
            refine rz_callVi (t := []) d_Commands_run_235 w_2_94 rfl rfl rfl (q6.2 b7) (fun xq8 Sq8 q8 => ?_)
            exact rz_ireti d_Commands_run_238 rfl rfl q8
          · skip
            refine rz_pure (pc' := 228) d_Commands_run_227 rfl ?_
            refine rz_callVi (t := []) d_Commands_run_228 w_2_103 rfl rfl rfl (q6.1 b7) (fun xq9 Sq9 q9 => ?_)
            refine rz_pure (pc' := 238) d_Commands_run_231 rfl ?_
            exact rz_ireti d_Commands_run_238 rfl rfl q9
        | 1, _ =>
          replace hx := hx.trans (show Int32.ofInt ((66 : Int) + ((1 : Nat) : Int)) = 67 from by decide)
          refine rz_tsj (tgt := 264) d_Commands_run_51 hx rfl ?_
          refine rz_pure (pc' := 265) d_Commands_run_264 rfl ?_
          refine rz_callVi (t := []) d_Commands_run_265 w_2_94 rfl rfl rfl (q4.2.2.1 hx) (fun xq10 Sq10 q10 => ?_)
          exact rz_ireti d_Commands_run_268 rfl rfl q10
        | 2, _ =>
          replace hx := hx.trans (show Int32.ofInt ((66 : Int) + ((2 : Nat) : Int)) = 68 from by decide)
          refine rz_tsj (tgt := 264) d_Commands_run_51 hx rfl ?_
          refine rz_pure (pc' := 265) d_Commands_run_264 rfl ?_
          refine rz_callVi (t := []) d_Commands_run_265 w_2_94 rfl rfl rfl (q4.2.2.2.1 hx) (fun xq11 Sq11 q11 => ?_)
          exact rz_ireti d_Commands_run_268 rfl rfl q11
        | 3, _ =>
          replace hx := hx.trans (show Int32.ofInt ((66 : Int) + ((3 : Nat) : Int)) = 69 from by decide)
          refine rz_tsj (tgt := 264) d_Commands_run_51 hx rfl ?_
          refine rz_pure (pc' := 265) d_Commands_run_264 rfl ?_
          refine rz_callVi (t := []) d_Commands_run_265 w_2_94 rfl rfl rfl (q4.2.2.2.2.1 hx) (fun xq12 Sq12 q12 => ?_)
          exact rz_ireti d_Commands_run_268 rfl rfl q12
        | 4, _ =>
          replace hx := hx.trans (show Int32.ofInt ((66 : Int) + ((4 : Nat) : Int)) = 70 from by decide)
          refine rz_tsj (tgt := 264) d_Commands_run_51 hx rfl ?_
          refine rz_pure (pc' := 265) d_Commands_run_264 rfl ?_
          refine rz_callVi (t := []) d_Commands_run_265 w_2_94 rfl rfl rfl (q4.2.2.2.2.2.1 hx) (fun xq13 Sq13 q13 => ?_)
          exact rz_ireti d_Commands_run_268 rfl rfl q13
        | 5, _ =>
          replace hx := hx.trans (show Int32.ofInt ((66 : Int) + ((5 : Nat) : Int)) = 71 from by decide)
          refine rz_tsj (tgt := 264) d_Commands_run_51 hx rfl ?_
          refine rz_pure (pc' := 265) d_Commands_run_264 rfl ?_
          refine rz_callVi (t := []) d_Commands_run_265 w_2_94 rfl rfl rfl (q4.2.2.2.2.2.2.1 hx) (fun xq14 Sq14 q14 => ?_)
          exact rz_ireti d_Commands_run_268 rfl rfl q14
        | 6, _ =>
          replace hx := hx.trans (show Int32.ofInt ((66 : Int) + ((6 : Nat) : Int)) = 72 from by decide)
          refine rz_tsj (tgt := 264) d_Commands_run_51 hx rfl ?_
          refine rz_pure (pc' := 265) d_Commands_run_264 rfl ?_
          refine rz_callVi (t := []) d_Commands_run_265 w_2_94 rfl rfl rfl (q4.2.2.2.2.2.2.2.1 hx) (fun xq15 Sq15 q15 => ?_)
          exact rz_ireti d_Commands_run_268 rfl rfl q15
        | 7, _ =>
          replace hx := hx.trans (show Int32.ofInt ((66 : Int) + ((7 : Nat) : Int)) = 73 from by decide)
          refine rz_tsj (tgt := 163) d_Commands_run_51 hx rfl ?_
          refine rz_pure (pc' := 164) d_Commands_run_163 rfl ?_
          refine rz_getr d_Commands_run_164 f_2_48 rfl rfl ?_
          refine rz_getiv (v := Sq4.2 1 2) d_Commands_run_167 f_2_62 rfl rfl rfl ?_
          refine rz_iconst (v := 1) d_Commands_run_170 (by decide) ?_
          refine rz_icmpne (tgt := 181) d_Commands_run_171 rfl (fun b16 => ?_) (fun b16 => ?_)
          · skip
            refine rz_pure (pc' := 182) d_Commands_run_181 rfl ?_
            refine rz_callVi (t := []) d_Commands_run_182 w_2_94 rfl rfl rfl ((q4.2.2.2.2.2.2.2.2.1 hx).2 b16) (fun xq17 Sq17 q17 => ?_)
            exact rz_ireti d_Commands_run_185 rfl rfl q17
          · skip
            refine rz_pure (pc' := 175) d_Commands_run_174 rfl ?_
            refine rz_callVi (t := []) d_Commands_run_175 w_2_91 rfl rfl rfl ((q4.2.2.2.2.2.2.2.2.1 hx).1 b16) (fun xq18 Sq18 q18 => ?_)
            refine rz_pure (pc' := 185) d_Commands_run_178 rfl ?_
            exact rz_ireti d_Commands_run_185 rfl rfl q18
        | 8, _ =>
          replace hx := hx.trans (show Int32.ofInt ((66 : Int) + ((8 : Nat) : Int)) = 74 from by decide)
          refine rz_tsj (tgt := 264) d_Commands_run_51 hx rfl ?_
          refine rz_pure (pc' := 265) d_Commands_run_264 rfl ?_
          refine rz_callVi (t := []) d_Commands_run_265 w_2_94 rfl rfl rfl (q4.2.2.2.2.2.2.2.2.2.1 hx) (fun xq19 Sq19 q19 => ?_)
          exact rz_ireti d_Commands_run_268 rfl rfl q19
        | 9, _ =>
          replace hx := hx.trans (show Int32.ofInt ((66 : Int) + ((9 : Nat) : Int)) = 75 from by decide)
          refine rz_tsj (tgt := 264) d_Commands_run_51 hx rfl ?_
          refine rz_pure (pc' := 265) d_Commands_run_264 rfl ?_
          refine rz_callVi (t := []) d_Commands_run_265 w_2_94 rfl rfl rfl (q4.2.2.2.2.2.2.2.2.2.2.1 hx) (fun xq20 Sq20 q20 => ?_)
          exact rz_ireti d_Commands_run_268 rfl rfl q20
        | 10, _ =>
          replace hx := hx.trans (show Int32.ofInt ((66 : Int) + ((10 : Nat) : Int)) = 76 from by decide)
          refine rz_tsj (tgt := 264) d_Commands_run_51 hx rfl ?_
          refine rz_pure (pc' := 265) d_Commands_run_264 rfl ?_
          refine rz_callVi (t := []) d_Commands_run_265 w_2_94 rfl rfl rfl (q4.2.2.2.2.2.2.2.2.2.2.2.1 hx) (fun xq21 Sq21 q21 => ?_)
          exact rz_ireti d_Commands_run_268 rfl rfl q21
        | 11, _ =>
          replace hx := hx.trans (show Int32.ofInt ((66 : Int) + ((11 : Nat) : Int)) = 77 from by decide)
          refine rz_tsj (tgt := 239) d_Commands_run_51 hx rfl ?_
          refine rz_pure (pc' := 240) d_Commands_run_239 rfl ?_
          refine rz_getr d_Commands_run_240 f_2_48 rfl rfl ?_
          refine rz_iconst (v := 1) d_Commands_run_243 (by decide) ?_
          refine rz_callVi (t := [.int 1]) d_Commands_run_244 w_2_77 rfl rfl rfl (q4.2.2.2.2.2.2.2.2.2.2.2.2.1 hx) (fun xq22 Sq22 q22 => ?_)
          refine rz_bipush (v := 45) d_Commands_run_247 (by decide) ?_
          refine rz_icmpne (tgt := 259) d_Commands_run_249 rfl (fun b23 => ?_) (fun b23 => ?_)
          · skip
            refine rz_pure (pc' := 260) d_Commands_run_259 rfl ?_
            refine rz_callVi (t := []) d_Commands_run_260 w_2_94 rfl rfl rfl (q22.2 b23) (fun xq24 Sq24 q24 => ?_)
            exact rz_ireti d_Commands_run_263 rfl rfl q24
          · skip
            refine rz_pure (pc' := 253) d_Commands_run_252 rfl ?_
            refine rz_callVi (t := []) d_Commands_run_253 w_2_106 rfl rfl rfl (q22.1 b23) (fun xq25 Sq25 q25 => ?_)
            refine rz_pure (pc' := 263) d_Commands_run_256 rfl ?_
            exact rz_ireti d_Commands_run_263 rfl rfl q25
        | 12, _ =>
          replace hx := hx.trans (show Int32.ofInt ((66 : Int) + ((12 : Nat) : Int)) = 78 from by decide)
          refine rz_tsj (tgt := 148) d_Commands_run_51 hx rfl ?_
          refine rz_pure (pc' := 149) d_Commands_run_148 rfl ?_
          refine rz_callVi (t := []) d_Commands_run_149 w_2_81 rfl rfl rfl (q4.2.2.2.2.2.2.2.2.2.2.2.2.2.1 hx) (fun xq26 Sq26 q26 => ?_)
          exact rz_ireti d_Commands_run_152 rfl rfl q26
        | 13, _ =>
          replace hx := hx.trans (show Int32.ofInt ((66 : Int) + ((13 : Nat) : Int)) = 79 from by decide)
          refine rz_tsj (tgt := 264) d_Commands_run_51 hx rfl ?_
          refine rz_pure (pc' := 265) d_Commands_run_264 rfl ?_
          refine rz_callVi (t := []) d_Commands_run_265 w_2_94 rfl rfl rfl (q4.2.2.2.2.2.2.2.2.2.2.2.2.2.2.1 hx) (fun xq27 Sq27 q27 => ?_)
          exact rz_ireti d_Commands_run_268 rfl rfl q27
        | 14, _ =>
          replace hx := hx.trans (show Int32.ofInt ((66 : Int) + ((14 : Nat) : Int)) = 80 from by decide)
          refine rz_tsj (tgt := 264) d_Commands_run_51 hx rfl ?_
          refine rz_pure (pc' := 265) d_Commands_run_264 rfl ?_
          refine rz_callVi (t := []) d_Commands_run_265 w_2_94 rfl rfl rfl (q4.2.2.2.2.2.2.2.2.2.2.2.2.2.2.2.1 hx) (fun xq28 Sq28 q28 => ?_)
          exact rz_ireti d_Commands_run_268 rfl rfl q28
        | 15, _ =>
          replace hx := hx.trans (show Int32.ofInt ((66 : Int) + ((15 : Nat) : Int)) = 81 from by decide)
          refine rz_tsj (tgt := 264) d_Commands_run_51 hx rfl ?_
          refine rz_pure (pc' := 265) d_Commands_run_264 rfl ?_
          refine rz_callVi (t := []) d_Commands_run_265 w_2_94 rfl rfl rfl (q4.2.2.2.2.2.2.2.2.2.2.2.2.2.2.2.2.1 hx) (fun xq29 Sq29 q29 => ?_)
          exact rz_ireti d_Commands_run_268 rfl rfl q29
        | 16, _ =>
          replace hx := hx.trans (show Int32.ofInt ((66 : Int) + ((16 : Nat) : Int)) = 82 from by decide)
          refine rz_tsj (tgt := 158) d_Commands_run_51 hx rfl ?_
          refine rz_pure (pc' := 159) d_Commands_run_158 rfl ?_
          refine rz_callVi (t := []) d_Commands_run_159 w_2_88 rfl rfl rfl (q4.2.2.2.2.2.2.2.2.2.2.2.2.2.2.2.2.2.1 hx) (fun xq30 Sq30 q30 => ?_)
          exact rz_ireti d_Commands_run_162 rfl rfl q30
        | 17, _ =>
          replace hx := hx.trans (show Int32.ofInt ((66 : Int) + ((17 : Nat) : Int)) = 83 from by decide)
          refine rz_tsj (tgt := 153) d_Commands_run_51 hx rfl ?_
          refine rz_pure (pc' := 154) d_Commands_run_153 rfl ?_
          refine rz_callVi (t := []) d_Commands_run_154 w_2_85 rfl rfl rfl (q4.2.2.2.2.2.2.2.2.2.2.2.2.2.2.2.2.2.2.1 hx) (fun xq31 Sq31 q31 => ?_)
          exact rz_ireti d_Commands_run_157 rfl rfl q31
        | 18, _ =>
          replace hx := hx.trans (show Int32.ofInt ((66 : Int) + ((18 : Nat) : Int)) = 84 from by decide)
          refine rz_tsj (tgt := 264) d_Commands_run_51 hx rfl ?_
          refine rz_pure (pc' := 265) d_Commands_run_264 rfl ?_
          refine rz_callVi (t := []) d_Commands_run_265 w_2_94 rfl rfl rfl (q4.2.2.2.2.2.2.2.2.2.2.2.2.2.2.2.2.2.2.2.1 hx) (fun xq32 Sq32 q32 => ?_)
          exact rz_ireti d_Commands_run_268 rfl rfl q32
        | 19, _ =>
          replace hx := hx.trans (show Int32.ofInt ((66 : Int) + ((19 : Nat) : Int)) = 85 from by decide)
          refine rz_tsj (tgt := 209) d_Commands_run_51 hx rfl ?_
          refine rz_pure (pc' := 210) d_Commands_run_209 rfl ?_
          refine rz_callVi (t := []) d_Commands_run_210 w_2_100 rfl rfl rfl (q4.2.2.2.2.2.2.2.2.2.2.2.2.2.2.2.2.2.2.2.2.1 hx) (fun xq33 Sq33 q33 => ?_)
          exact rz_ireti d_Commands_run_213 rfl rfl q33
        | 20, _ =>
          replace hx := hx.trans (show Int32.ofInt ((66 : Int) + ((20 : Nat) : Int)) = 86 from by decide)
          refine rz_tsj (tgt := 186) d_Commands_run_51 hx rfl ?_
          refine rz_pure (pc' := 187) d_Commands_run_186 rfl ?_
          refine rz_getr d_Commands_run_187 f_2_48 rfl rfl ?_
          refine rz_getiv (v := Sq4.2 1 2) d_Commands_run_190 f_2_62 rfl rfl rfl ?_
          refine rz_iconst (v := 1) d_Commands_run_193 (by decide) ?_
          refine rz_icmpne (tgt := 204) d_Commands_run_194 rfl (fun b34 => ?_) (fun b34 => ?_)
          · skip
            refine rz_pure (pc' := 205) d_Commands_run_204 rfl ?_
            refine rz_callVi (t := []) d_Commands_run_205 w_2_94 rfl rfl rfl ((q4.2.2.2.2.2.2.2.2.2.2.2.2.2.2.2.2.2.2.2.2.2 hx).2 b34) (fun xq35 Sq35 q35 => ?_)
            exact rz_ireti d_Commands_run_208 rfl rfl q35
          · skip
            refine rz_pure (pc' := 198) d_Commands_run_197 rfl ?_
            refine rz_callVi (t := []) d_Commands_run_198 w_2_97 rfl rfl rfl ((q4.2.2.2.2.2.2.2.2.2.2.2.2.2.2.2.2.2.2.2.2.2 hx).1 b34) (fun xq36 Sq36 q36 => ?_)
            refine rz_pure (pc' := 208) d_Commands_run_201 rfl ?_
            exact rz_ireti d_Commands_run_208 rfl rfl q36
        | j + 21, h => exact absurd h (by omega)
    · skip
      refine rz_pure (pc' := 32) d_Commands_run_31 rfl ?_
      refine rz_getr d_Commands_run_32 f_2_38 rfl rfl ?_
      refine rz_bipush (v := 32) d_Commands_run_35 (by decide) ?_
      refine rz_iconst (v := 0) d_Commands_run_37 (by decide) ?_
      refine rz_iconst (v := 0) d_Commands_run_38 (by decide) ?_
      refine rz_callVi (t := [.int 0, .int 0, .int 32]) d_Commands_run_39 w_2_73 rfl rfl rfl (q2.2 b3) (fun xq37 Sq37 q37 => ?_)
      exact rz_ireti d_Commands_run_42 rfl rfl q37
  · skip
    refine rz_iconst (v := 0) d_Commands_run_10 (by decide) ?_
    exact rz_ireti d_Commands_run_11 rfl rfl (w.1 b1)
theorem d_Commands_newDisk_0 : decode (rm_code mCommands_newDisk) 0 = .ok (.aload_n 0, 1) := by decide +kernel
theorem d_Commands_newDisk_1 : decode (rm_code mCommands_newDisk) 1 = .ok (.getfield 48, 3) := by decide +kernel
theorem d_Commands_newDisk_4 : decode (rm_code mCommands_newDisk) 4 = .ok (.bipush (44), 2) := by decide +kernel
theorem d_Commands_newDisk_6 : decode (rm_code mCommands_newDisk) 6 = .ok (.iconst 2, 1) := by decide +kernel
theorem d_Commands_newDisk_7 : decode (rm_code mCommands_newDisk) 7 = .ok (.invokevirtual 109, 3) := by decide +kernel
theorem d_Commands_newDisk_10 : decode (rm_code mCommands_newDisk) 10 = .ok (.istore_n 1, 1) := by decide +kernel
theorem d_Commands_newDisk_11 : decode (rm_code mCommands_newDisk) 11 = .ok (.iload_n 1, 1) := by decide +kernel
theorem d_Commands_newDisk_12 : decode (rm_code mCommands_newDisk) 12 = .ok (.iconst (-1), 1) := by decide +kernel
theorem d_Commands_newDisk_13 : decode (rm_code mCommands_newDisk) 13 = .ok (.if_icmp .ne (13), 3) := by decide +kernel
theorem d_Commands_newDisk_16 : decode (rm_code mCommands_newDisk) 16 = .ok (.aload_n 0, 1) := by decide +kernel
theorem d_Commands_newDisk_17 : decode (rm_code mCommands_newDisk) 17 = .ok (.getfield 48, 3) := by decide +kernel
theorem d_Commands_newDisk_20 : decode (rm_code mCommands_newDisk) 20 = .ok (.getfield 62, 3) := by decide +kernel
theorem d_Commands_newDisk_23 : decode (rm_code mCommands_newDisk) 23 = .ok (.goto (4), 3) := by decide +kernel
theorem d_Commands_newDisk_26 : decode (rm_code mCommands_newDisk) 26 = .ok (.iload_n 1, 1) := by decide +kernel
theorem d_Commands_newDisk_27 : decode (rm_code mCommands_newDisk) 27 = .ok (.istore_n 2, 1) := by decide +kernel
theorem d_Commands_newDisk_28 : decode (rm_code mCommands_newDisk) 28 = .ok (.aload_n 0, 1) := by decide +kernel
theorem d_Commands_newDisk_29 : decode (rm_code mCommands_newDisk) 29 = .ok (.getfield 48, 3) := by decide +kernel
theorem d_Commands_newDisk_32 : decode (rm_code mCommands_newDisk) 32 = .ok (.iconst 1, 1) := by decide +kernel
theorem d_Commands_newDisk_33 : decode (rm_code mCommands_newDisk) 33 = .ok (.invokevirtual 77, 3) := by decide +kernel
theorem d_Commands_newDisk_36 : decode (rm_code mCommands_newDisk) 36 = .ok (.bipush (58), 2) := by decide +kernel
theorem d_Commands_newDisk_38 : decode (rm_code mCommands_newDisk) 38 = .ok (.if_icmp .ne (33), 3) := by decide +kernel
theorem d_Commands_newDisk_41 : decode (rm_code mCommands_newDisk) 41 = .ok (.aload_n 0, 1) := by decide +kernel
theorem d_Commands_newDisk_42 : decode (rm_code mCommands_newDisk) 42 = .ok (.getfield 12, 3) := by decide +kernel
theorem d_Commands_newDisk_45 : decode (rm_code mCommands_newDisk) 45 = .ok (.aload_n 0, 1) := by decide +kernel
theorem d_Commands_newDisk_46 : decode (rm_code mCommands_newDisk) 46 = .ok (.getfield 48, 3) := by decide +kernel
theorem d_Commands_newDisk_49 : decode (rm_code mCommands_newDisk) 49 = .ok (.iconst 2, 1) := by decide +kernel
theorem d_Commands_newDisk_50 : decode (rm_code mCommands_newDisk) 50 = .ok (.iload_n 2, 1) := by decide +kernel
theorem d_Commands_newDisk_51 : decode (rm_code mCommands_newDisk) 51 = .ok (.invokevirtual 113, 3) := by decide +kernel
theorem d_Commands_newDisk_54 : decode (rm_code mCommands_newDisk) 54 = .ok (.ifCond .eq (17), 3) := by decide +kernel
theorem d_Commands_newDisk_57 : decode (rm_code mCommands_newDisk) 57 = .ok (.aload_n 0, 1) := by decide +kernel
theorem d_Commands_newDisk_58 : decode (rm_code mCommands_newDisk) 58 = .ok (.getfield 12, 3) := by decide +kernel
theorem d_Commands_newDisk_61 : decode (rm_code mCommands_newDisk) 61 = .ok (.invokevirtual 117, 3) := by decide +kernel
theorem d_Commands_newDisk_64 : decode (rm_code mCommands_newDisk) 64 = .ok (.ifCond .ne (7), 3) := by decide +kernel
theorem d_Commands_newDisk_67 : decode (rm_code mCommands_newDisk) 67 = .ok (.iconst 1, 1) := by decide +kernel
theorem d_Commands_newDisk_68 : decode (rm_code mCommands_newDisk) 68 = .ok (.goto (4), 3) := by decide +kernel
theorem d_Commands_newDisk_71 : decode (rm_code mCommands_newDisk) 71 = .ok (.iconst 0, 1) := by decide +kernel
theorem d_Commands_newDisk_72 : decode (rm_code mCommands_newDisk) 72 = .ok (.istore_n 3, 1) := by decide +kernel
theorem d_Commands_newDisk_73 : decode (rm_code mCommands_newDisk) 73 = .ok (.iload_n 3, 1) := by decide +kernel
theorem d_Commands_newDisk_74 : decode (rm_code mCommands_newDisk) 74 = .ok (.ifCond .eq (21), 3) := by decide +kernel
theorem d_Commands_newDisk_77 : decode (rm_code mCommands_newDisk) 77 = .ok (.iload_n 1, 1) := by decide +kernel
theorem d_Commands_newDisk_78 : decode (rm_code mCommands_newDisk) 78 = .ok (.iconst (-1), 1) := by decide +kernel
theorem d_Commands_newDisk_79 : decode (rm_code mCommands_newDisk) 79 = .ok (.if_icmp .eq (28), 3) := by decide +kernel
theorem d_Commands_newDisk_82 : decode (rm_code mCommands_newDisk) 82 = .ok (.aload_n 0, 1) := by decide +kernel
theorem d_Commands_newDisk_83 : decode (rm_code mCommands_newDisk) 83 = .ok (.getfield 48, 3) := by decide +kernel
theorem d_Commands_newDisk_86 : decode (rm_code mCommands_newDisk) 86 = .ok (.getfield 62, 3) := by decide +kernel
theorem d_Commands_newDisk_89 : decode (rm_code mCommands_newDisk) 89 = .ok (.iload_n 1, 1) := by decide +kernel
theorem d_Commands_newDisk_90 : decode (rm_code mCommands_newDisk) 90 = .ok (.isub, 1) := by decide +kernel
theorem d_Commands_newDisk_91 : decode (rm_code mCommands_newDisk) 91 = .ok (.iconst 3, 1) := by decide +kernel
theorem d_Commands_newDisk_92 : decode (rm_code mCommands_newDisk) 92 = .ok (.if_icmp .eq (15), 3) := by decide +kernel
theorem d_Commands_newDisk_95 : decode (rm_code mCommands_newDisk) 95 = .ok (.aload_n 0, 1) := by decide +kernel
theorem d_Commands_newDisk_96 : decode (rm_code mCommands_newDisk) 96 = .ok (.getfield 38, 3) := by decide +kernel
theorem d_Commands_newDisk_99 : decode (rm_code mCommands_newDisk) 99 = .ok (.bipush (30), 2) := by decide +kernel
theorem d_Commands_newDisk_101 : decode (rm_code mCommands_newDisk) 101 = .ok (.iconst 0, 1) := by decide +kernel
theorem d_Commands_newDisk_102 : decode (rm_code mCommands_newDisk) 102 = .ok (.iconst 0, 1) := by decide +kernel
theorem d_Commands_newDisk_103 : decode (rm_code mCommands_newDisk) 103 = .ok (.invokevirtual 73, 3) := by decide +kernel
theorem d_Commands_newDisk_106 : decode (rm_code mCommands_newDisk) 106 = .ok (.ireturn, 1) := by decide +kernel
theorem d_Commands_newDisk_107 : decode (rm_code mCommands_newDisk) 107 = .ok (.aload_n 0, 1) := by decide +kernel
theorem d_Commands_newDisk_108 : decode (rm_code mCommands_newDisk) 108 = .ok (.getfield 12, 3) := by decide +kernel
theorem d_Commands_newDisk_111 : decode (rm_code mCommands_newDisk) 111 = .ok (.invokevirtual 121, 3) := by decide +kernel
theorem d_Commands_newDisk_114 : decode (rm_code mCommands_newDisk) 114 = .ok (.ifCond .eq (15), 3) := by decide +kernel
theorem d_Commands_newDisk_117 : decode (rm_code mCommands_newDisk) 117 = .ok (.aload_n 0, 1) := by decide +kernel
theorem d_Commands_newDisk_118 : decode (rm_code mCommands_newDisk) 118 = .ok (.getfield 38, 3) := by decide +kernel
theorem d_Commands_newDisk_121 : decode (rm_code mCommands_newDisk) 121 = .ok (.bipush (33), 2) := by decide +kernel
theorem d_Commands_newDisk_123 : decode (rm_code mCommands_newDisk) 123 = .ok (.iconst 0, 1) := by decide +kernel
theorem d_Commands_newDisk_124 : decode (rm_code mCommands_newDisk) 124 = .ok (.iconst 0, 1) := by decide +kernel
theorem d_Commands_newDisk_125 : decode (rm_code mCommands_newDisk) 125 = .ok (.invokevirtual 73, 3) := by decide +kernel
theorem d_Commands_newDisk_128 : decode (rm_code mCommands_newDisk) 128 = .ok (.ireturn, 1) := by decide +kernel
theorem d_Commands_newDisk_129 : decode (rm_code mCommands_newDisk) 129 = .ok (.iconst 0, 1) := by decide +kernel
theorem d_Commands_newDisk_130 : decode (rm_code mCommands_newDisk) 130 = .ok (.istore 4, 2) := by decide +kernel
theorem d_Commands_newDisk_132 : decode (rm_code mCommands_newDisk) 132 = .ok (.iload_n 1, 1) := by decide +kernel
theorem d_Commands_newDisk_133 : decode (rm_code mCommands_newDisk) 133 = .ok (.iconst (-1), 1) := by decide +kernel
theorem d_Commands_newDisk_134 : decode (rm_code mCommands_newDisk) 134 = .ok (.if_icmp .eq (32), 3) := by decide +kernel
theorem d_Commands_newDisk_137 : decode (rm_code mCommands_newDisk) 137 = .ok (.aload_n 0, 1) := by decide +kernel
theorem d_Commands_newDisk_138 : decode (rm_code mCommands_newDisk) 138 = .ok (.aload_n 0, 1) := by decide +kernel
theorem d_Commands_newDisk_139 : decode (rm_code mCommands_newDisk) 139 = .ok (.getfield 48, 3) := by decide +kernel
theorem d_Commands_newDisk_142 : decode (rm_code mCommands_newDisk) 142 = .ok (.iload_n 1, 1) := by decide +kernel
theorem d_Commands_newDisk_143 : decode (rm_code mCommands_newDisk) 143 = .ok (.iconst 1, 1) := by decide +kernel
theorem d_Commands_newDisk_144 : decode (rm_code mCommands_newDisk) 144 = .ok (.iadd, 1) := by decide +kernel
theorem d_Commands_newDisk_145 : decode (rm_code mCommands_newDisk) 145 = .ok (.invokevirtual 77, 3) := by decide +kernel
theorem d_Commands_newDisk_148 : decode (rm_code mCommands_newDisk) 148 = .ok (.aload_n 0, 1) := by decide +kernel
theorem d_Commands_newDisk_149 : decode (rm_code mCommands_newDisk) 149 = .ok (.getfield 48, 3) := by decide +kernel
theorem d_Commands_newDisk_152 : decode (rm_code mCommands_newDisk) 152 = .ok (.iload_n 1, 1) := by decide +kernel
theorem d_Commands_newDisk_153 : decode (rm_code mCommands_newDisk) 153 = .ok (.iconst 2, 1) := by decide +kernel
theorem d_Commands_newDisk_154 : decode (rm_code mCommands_newDisk) 154 = .ok (.iadd, 1) := by decide +kernel
theorem d_Commands_newDisk_155 : decode (rm_code mCommands_newDisk) 155 = .ok (.invokevirtual 77, 3) := by decide +kernel
theorem d_Commands_newDisk_158 : decode (rm_code mCommands_newDisk) 158 = .ok (.invokevirtual 124, 3) := by decide +kernel
theorem d_Commands_newDisk_161 : decode (rm_code mCommands_newDisk) 161 = .ok (.istore 4, 2) := by decide +kernel
theorem d_Commands_newDisk_163 : decode (rm_code mCommands_newDisk) 163 = .ok (.goto (22), 3) := by decide +kernel
theorem d_Commands_newDisk_166 : decode (rm_code mCommands_newDisk) 166 = .ok (.aload_n 0, 1) := by decide +kernel
theorem d_Commands_newDisk_167 : decode (rm_code mCommands_newDisk) 167 = .ok (.getfield 43, 3) := by decide +kernel
theorem d_Commands_newDisk_170 : decode (rm_code mCommands_newDisk) 170 = .ok (.invokevirtual 127, 3) := by decide +kernel
theorem d_Commands_newDisk_173 : decode (rm_code mCommands_newDisk) 173 = .ok (.ifCond .ne (12), 3) := by decide +kernel
theorem d_Commands_newDisk_176 : decode (rm_code mCommands_newDisk) 176 = .ok (.aload_n 0, 1) := by decide +kernel
theorem d_Commands_newDisk_177 : decode (rm_code mCommands_newDisk) 177 = .ok (.getfield 43, 3) := by decide +kernel
theorem d_Commands_newDisk_180 : decode (rm_code mCommands_newDisk) 180 = .ok (.invokevirtual 132, 3) := by decide +kernel
theorem d_Commands_newDisk_183 : decode (rm_code mCommands_newDisk) 183 = .ok (.istore 4, 2) := by decide +kernel
theorem d_Commands_newDisk_185 : decode (rm_code mCommands_newDisk) 185 = .ok (.iload 4, 2) := by decide +kernel
theorem d_Commands_newDisk_187 : decode (rm_code mCommands_newDisk) 187 = .ok (.ifCond .ne (23), 3) := by decide +kernel
theorem d_Commands_newDisk_190 : decode (rm_code mCommands_newDisk) 190 = .ok (.aload_n 0, 1) := by decide +kernel
theorem d_Commands_newDisk_191 : decode (rm_code mCommands_newDisk) 191 = .ok (.getfield 53, 3) := by decide +kernel
theorem d_Commands_newDisk_194 : decode (rm_code mCommands_newDisk) 194 = .ok (.aload_n 0, 1) := by decide +kernel
theorem d_Commands_newDisk_195 : decode (rm_code mCommands_newDisk) 195 = .ok (.getfield 12, 3) := by decide +kernel
theorem d_Commands_newDisk_198 : decode (rm_code mCommands_newDisk) 198 = .ok (.invokevirtual 135, 3) := by decide +kernel
theorem d_Commands_newDisk_201 : decode (rm_code mCommands_newDisk) 201 = .ok (.aload_n 0, 1) := by decide +kernel
theorem d_Commands_newDisk_202 : decode (rm_code mCommands_newDisk) 202 = .ok (.getfield 53, 3) := by decide +kernel
theorem d_Commands_newDisk_205 : decode (rm_code mCommands_newDisk) 205 = .ok (.invokevirtual 140, 3) := by decide +kernel
theorem d_Commands_newDisk_208 : decode (rm_code mCommands_newDisk) 208 = .ok (.istore 4, 2) := by decide +kernel
theorem d_Commands_newDisk_210 : decode (rm_code mCommands_newDisk) 210 = .ok (.iload 4, 2) := by decide +kernel
theorem d_Commands_newDisk_212 : decode (rm_code mCommands_newDisk) 212 = .ok (.ifCond .eq (8), 3) := by decide +kernel
theorem d_Commands_newDisk_215 : decode (rm_code mCommands_newDisk) 215 = .ok (.iload 4, 2) := by decide +kernel
theorem d_Commands_newDisk_217 : decode (rm_code mCommands_newDisk) 217 = .ok (.goto (13), 3) := by decide +kernel
theorem d_Commands_newDisk_220 : decode (rm_code mCommands_newDisk) 220 = .ok (.aload_n 0, 1) := by decide +kernel
theorem d_Commands_newDisk_221 : decode (rm_code mCommands_newDisk) 221 = .ok (.getfield 58, 3) := by decide +kernel
theorem d_Commands_newDisk_224 : decode (rm_code mCommands_newDisk) 224 = .ok (.bipush (7), 2) := by decide +kernel
theorem d_Commands_newDisk_226 : decode (rm_code mCommands_newDisk) 226 = .ok (.iconst 1, 1) := by decide +kernel
theorem d_Commands_newDisk_227 : decode (rm_code mCommands_newDisk) 227 = .ok (.invokevirtual 143, 3) := by decide +kernel
theorem d_Commands_newDisk_230 : decode (rm_code mCommands_newDisk) 230 = .ok (.ireturn, 1) := by decide +kernel
theorem p_Commands_newDisk_0 {S : rz_S} {K : Int32 → rz_S → Prop} (w : rz_ev mTape_find [.ref 1, .int 44, .int 2] S (rz_i (fun xq1 Sq1 => ((xq1 = (-1) → rz mCommands_newDisk 27 [(0, .ref 108), (1, .int xq1)] [.int (Sq1.2 1 2)] Sq1 (rz_i K)) ∧ (¬ xq1 = (-1) → rz mCommands_newDisk 27 [(0, .ref 108), (1, .int xq1)] [.int xq1] Sq1 (rz_i K)))))) : rz mCommands_newDisk 0 [(0, .ref 108)] [] S (rz_i K) := by
  refine rz_pure (pc' := 1) d_Commands_newDisk_0 rfl ?_
  refine rz_getr d_Commands_newDisk_1 f_2_48 rfl rfl ?_
  refine rz_bipush (v := 44) d_Commands_newDisk_4 (by decide) ?_
  refine rz_iconst (v := 2) d_Commands_newDisk_6 (by decide) ?_
  refine rz_callVi (t := [.int 2, .int 44]) d_Commands_newDisk_7 w_2_109 rfl rfl rfl w (fun xq1 Sq1 q1 => ?_)
  refine rz_pure (pc' := 11) (l' := [(1, .int xq1), (0, .ref 108)]) d_Commands_newDisk_10 rfl ?_
  refine rz_pure (pc' := 12) d_Commands_newDisk_11 rfl ?_
  refine rz_iconst (v := -1) d_Commands_newDisk_12 (by decide) ?_
  refine rz_icmpne (tgt := 26) d_Commands_newDisk_13 rfl (fun b2 => ?_) (fun b2 => ?_)
  · skip
    refine rz_pure (pc' := 27) d_Commands_newDisk_26 rfl ?_
    exact rz_pick (ks := [0, 1]) (l := [(0, .ref 108), (1, .int xq1)]) rfl rfl (by decide) rfl (q1.2 b2)
  · skip
    refine rz_pure (pc' := 17) d_Commands_newDisk_16 rfl ?_
    refine rz_getr d_Commands_newDisk_17 f_2_48 rfl rfl ?_
    refine rz_getiv (v := Sq1.2 1 2) d_Commands_newDisk_20 f_2_62 rfl rfl rfl ?_
    refine rz_pure (pc' := 27) d_Commands_newDisk_23 rfl ?_
    exact rz_pick (ks := [0, 1]) (l := [(0, .ref 108), (1, .int xq1)]) rfl rfl (by decide) rfl (q1.1 b2)
theorem p_Commands_newDisk_27 {S : rz_S} {K : Int32 → rz_S → Prop} {a1 : Int32} {s0 : Int32} (w : rz_ev mTape_byteAt [.ref 1, .int 1] S (rz_i (fun xq1 Sq1 => ((xq1 = 58 → rz_ev mPattern_take [.ref 109, .ref 1, .int 2, .int s0] Sq1 (rz_i (fun xq3 Sq3 => ((xq3 = 0 → rz mCommands_newDisk 71 [(0, .ref 108), (1, .int a1)] [] Sq3 (rz_i K)) ∧ (¬ xq3 = 0 → rz_ev mPattern_isEmpty [.ref 109] Sq3 (rz_i (fun xq5 Sq5 => ((xq5 = 0 → rz mCommands_newDisk 72 [(0, .ref 108), (1, .int a1)] [.int 1] Sq5 (rz_i K)) ∧ (¬ xq5 = 0 → rz mCommands_newDisk 71 [(0, .ref 108), (1, .int a1)] [] Sq5 (rz_i K)))))))))) ∧ (¬ xq1 = 58 → rz mCommands_newDisk 71 [(0, .ref 108), (1, .int a1)] [] Sq1 (rz_i K)))))) : rz mCommands_newDisk 27 [(0, .ref 108), (1, .int a1)] [.int s0] S (rz_i K) := by
  refine rz_pure (pc' := 28) (l' := [(2, .int s0), (0, .ref 108), (1, .int a1)]) d_Commands_newDisk_27 rfl ?_
  refine rz_pure (pc' := 29) d_Commands_newDisk_28 rfl ?_
  refine rz_getr d_Commands_newDisk_29 f_2_48 rfl rfl ?_
  refine rz_iconst (v := 1) d_Commands_newDisk_32 (by decide) ?_
  refine rz_callVi (t := [.int 1]) d_Commands_newDisk_33 w_2_77 rfl rfl rfl w (fun xq1 Sq1 q1 => ?_)
  refine rz_bipush (v := 58) d_Commands_newDisk_36 (by decide) ?_
  refine rz_icmpne (tgt := 71) d_Commands_newDisk_38 rfl (fun b2 => ?_) (fun b2 => ?_)
  · skip
    exact rz_pick (ks := [0, 1]) (l := [(0, .ref 108), (1, .int a1)]) rfl rfl (by decide) rfl (q1.2 b2)
  · skip
    refine rz_pure (pc' := 42) d_Commands_newDisk_41 rfl ?_
    refine rz_getr d_Commands_newDisk_42 f_2_12 rfl rfl ?_
    refine rz_pure (pc' := 46) d_Commands_newDisk_45 rfl ?_
    refine rz_getr d_Commands_newDisk_46 f_2_48 rfl rfl ?_
    refine rz_iconst (v := 2) d_Commands_newDisk_49 (by decide) ?_
    refine rz_pure (pc' := 51) d_Commands_newDisk_50 rfl ?_
    refine rz_callVi (t := [.int s0, .int 2, .ref 1]) d_Commands_newDisk_51 w_2_113 rfl rfl rfl (q1.1 b2) (fun xq3 Sq3 q3 => ?_)
    refine rz_ifeq (tgt := 71) d_Commands_newDisk_54 rfl (fun b4 => ?_) (fun b4 => ?_)
    · skip
      exact rz_pick (ks := [0, 1]) (l := [(0, .ref 108), (1, .int a1)]) rfl rfl (by decide) rfl (q3.1 b4)
    · skip
      refine rz_pure (pc' := 58) d_Commands_newDisk_57 rfl ?_
      refine rz_getr d_Commands_newDisk_58 f_2_12 rfl rfl ?_
      refine rz_callVi (t := []) d_Commands_newDisk_61 w_2_117 rfl rfl rfl (q3.2 b4) (fun xq5 Sq5 q5 => ?_)
      refine rz_ifne (tgt := 71) d_Commands_newDisk_64 rfl (fun b6 => ?_) (fun b6 => ?_)
      · skip
        exact rz_pick (ks := [0, 1]) (l := [(0, .ref 108), (1, .int a1)]) rfl rfl (by decide) rfl (q5.2 b6)
      · skip
        refine rz_iconst (v := 1) d_Commands_newDisk_67 (by decide) ?_
        refine rz_pure (pc' := 72) d_Commands_newDisk_68 rfl ?_
        exact rz_pick (ks := [0, 1]) (l := [(0, .ref 108), (1, .int a1)]) rfl rfl (by decide) rfl (q5.1 b6)
theorem p_Commands_newDisk_71 {S : rz_S} {K : Int32 → rz_S → Prop} {a1 : Int32} (w : rz mCommands_newDisk 72 [(0, .ref 108), (1, .int a1)] [.int 0] S (rz_i K)) : rz mCommands_newDisk 71 [(0, .ref 108), (1, .int a1)] [] S (rz_i K) := by
  refine rz_iconst (v := 0) d_Commands_newDisk_71 (by decide) ?_
  exact rz_pick (ks := [0, 1]) (l := [(0, .ref 108), (1, .int a1)]) rfl rfl (by decide) rfl w
theorem p_Commands_newDisk_72 {S : rz_S} {K : Int32 → rz_S → Prop} {a1 : Int32} {s0 : Int32} (w : ((s0 = 0 → rz mCommands_newDisk 95 [(0, .ref 108)] [] S (rz_i K)) ∧ (¬ s0 = 0 → ((a1 = (-1) → rz mCommands_newDisk 107 [(0, .ref 108), (1, .int a1)] [] S (rz_i K)) ∧ (¬ a1 = (-1) → (((S.2 1 2) - a1 = 3 → rz mCommands_newDisk 107 [(0, .ref 108), (1, .int a1)] [] S (rz_i K)) ∧ (¬ (S.2 1 2) - a1 = 3 → rz mCommands_newDisk 95 [(0, .ref 108)] [] S (rz_i K)))))))) : rz mCommands_newDisk 72 [(0, .ref 108), (1, .int a1)] [.int s0] S (rz_i K) := by
  refine rz_pure (pc' := 73) (l' := [(3, .int s0), (0, .ref 108), (1, .int a1)]) d_Commands_newDisk_72 rfl ?_
  refine rz_pure (pc' := 74) d_Commands_newDisk_73 rfl ?_
  refine rz_ifeq (tgt := 95) d_Commands_newDisk_74 rfl (fun b1 => ?_) (fun b1 => ?_)
  · skip
    exact rz_pick (ks := [0]) (l := [(0, .ref 108)]) rfl rfl (by decide) rfl (w.1 b1)
  · skip
    refine rz_pure (pc' := 78) d_Commands_newDisk_77 rfl ?_
    refine rz_iconst (v := -1) d_Commands_newDisk_78 (by decide) ?_
    refine rz_icmpeq (tgt := 107) d_Commands_newDisk_79 rfl (fun b2 => ?_) (fun b2 => ?_)
    · skip
      exact rz_pick (ks := [0, 1]) (l := [(0, .ref 108), (1, .int a1)]) rfl rfl (by decide) rfl ((w.2 b1).1 b2)
    · skip
      refine rz_pure (pc' := 83) d_Commands_newDisk_82 rfl ?_
      refine rz_getr d_Commands_newDisk_83 f_2_48 rfl rfl ?_
      refine rz_getiv (v := S.2 1 2) d_Commands_newDisk_86 f_2_62 rfl rfl rfl ?_
      refine rz_pure (pc' := 90) d_Commands_newDisk_89 rfl ?_
      refine rz_isub d_Commands_newDisk_90 ?_
      refine rz_iconst (v := 3) d_Commands_newDisk_91 (by decide) ?_
      refine rz_icmpeq (tgt := 107) d_Commands_newDisk_92 rfl (fun b3 => ?_) (fun b3 => ?_)
      · skip
        exact rz_pick (ks := [0, 1]) (l := [(0, .ref 108), (1, .int a1)]) rfl rfl (by decide) rfl (((w.2 b1).2 b2).1 b3)
      · skip
        exact rz_pick (ks := [0]) (l := [(0, .ref 108)]) rfl rfl (by decide) rfl (((w.2 b1).2 b2).2 b3)
theorem p_Commands_newDisk_95 {S : rz_S} {K : Int32 → rz_S → Prop} (w : rz_ev mStatus_set [.ref 3, .int 30, .int 0, .int 0] S (rz_i (fun xq1 Sq1 => K xq1 Sq1))) : rz mCommands_newDisk 95 [(0, .ref 108)] [] S (rz_i K) := by
  refine rz_pure (pc' := 96) d_Commands_newDisk_95 rfl ?_
  refine rz_getr d_Commands_newDisk_96 f_2_38 rfl rfl ?_
  refine rz_bipush (v := 30) d_Commands_newDisk_99 (by decide) ?_
  refine rz_iconst (v := 0) d_Commands_newDisk_101 (by decide) ?_
  refine rz_iconst (v := 0) d_Commands_newDisk_102 (by decide) ?_
  refine rz_callVi (t := [.int 0, .int 0, .int 30]) d_Commands_newDisk_103 w_2_73 rfl rfl rfl w (fun xq1 Sq1 q1 => ?_)
  exact rz_ireti d_Commands_newDisk_106 rfl rfl q1
theorem p_Commands_newDisk_107 {S : rz_S} {K : Int32 → rz_S → Prop} {a1 : Int32} (w : rz_ev mPattern_isWild [.ref 109] S (rz_i (fun xq1 Sq1 => ((xq1 = 0 → ((a1 = (-1) → rz_ev mDisk_hasId [.ref 6] Sq1 (rz_i (fun xq4 Sq4 => ((xq4 = 0 → rz_ev mDisk_takeId [.ref 6] Sq4 (rz_i (fun xq6 Sq6 => rz mCommands_newDisk 185 [(0, .ref 108), (4, .int xq6)] [] Sq6 (rz_i K)))) ∧ (¬ xq4 = 0 → rz mCommands_newDisk 185 [(0, .ref 108), (4, .int 0)] [] Sq4 (rz_i K)))))) ∧ (¬ a1 = (-1) → rz_ev mTape_byteAt [.ref 1, .int (a1 + 1)] Sq1 (rz_i (fun xq7 Sq7 => rz_ev mTape_byteAt [.ref 1, .int (a1 + 2)] Sq7 (rz_i (fun xq8 Sq8 => rz_ev mCommands_formatAll [.ref 108, .int xq7, .int xq8] Sq8 (rz_i (fun xq9 Sq9 => rz mCommands_newDisk 185 [(0, .ref 108), (4, .int xq9)] [] Sq9 (rz_i K)))))))))) ∧ (¬ xq1 = 0 → rz_ev mStatus_set [.ref 3, .int 33, .int 0, .int 0] Sq1 (rz_i (fun xq10 Sq10 => K xq10 Sq10))))))) : rz mCommands_newDisk 107 [(0, .ref 108), (1, .int a1)] [] S (rz_i K) := by
  refine rz_pure (pc' := 108) d_Commands_newDisk_107 rfl ?_
  refine rz_getr d_Commands_newDisk_108 f_2_12 rfl rfl ?_
  refine rz_callVi (t := []) d_Commands_newDisk_111 w_2_121 rfl rfl rfl w (fun xq1 Sq1 q1 => ?_)
  refine rz_ifeq (tgt := 129) d_Commands_newDisk_114 rfl (fun b2 => ?_) (fun b2 => ?_)
  · skip
    refine rz_iconst (v := 0) d_Commands_newDisk_129 (by decide) ?_
    refine rz_pure (pc' := 132) (l' := [(4, .int 0), (0, .ref 108), (1, .int a1)]) d_Commands_newDisk_130 rfl ?_
    refine rz_pure (pc' := 133) d_Commands_newDisk_132 rfl ?_
    refine rz_iconst (v := -1) d_Commands_newDisk_133 (by decide) ?_
    refine rz_icmpeq (tgt := 166) d_Commands_newDisk_134 rfl (fun b3 => ?_) (fun b3 => ?_)
    · skip
      refine rz_pure (pc' := 167) d_Commands_newDisk_166 rfl ?_
      refine rz_getr d_Commands_newDisk_167 f_2_43 rfl rfl ?_
      refine rz_callVi (t := []) d_Commands_newDisk_170 w_2_127 rfl rfl rfl ((q1.1 b2).1 b3) (fun xq4 Sq4 q4 => ?_)
      refine rz_ifne (tgt := 185) d_Commands_newDisk_173 rfl (fun b5 => ?_) (fun b5 => ?_)
      · skip
        exact rz_pick (ks := [0, 4]) (l := [(0, .ref 108), (4, .int 0)]) rfl rfl (by decide) rfl (q4.2 b5)
      · skip
        refine rz_pure (pc' := 177) d_Commands_newDisk_176 rfl ?_
        refine rz_getr d_Commands_newDisk_177 f_2_43 rfl rfl ?_
        refine rz_callVi (t := []) d_Commands_newDisk_180 w_2_132 rfl rfl rfl (q4.1 b5) (fun xq6 Sq6 q6 => ?_)
        refine rz_pure (pc' := 185) (l' := [(4, .int xq6), (0, .ref 108), (1, .int a1)]) d_Commands_newDisk_183 rfl ?_
        exact rz_pick (ks := [0, 4]) (l := [(0, .ref 108), (4, .int xq6)]) rfl rfl (by decide) rfl q6
    · skip
      refine rz_pure (pc' := 138) d_Commands_newDisk_137 rfl ?_
      refine rz_pure (pc' := 139) d_Commands_newDisk_138 rfl ?_
      refine rz_getr d_Commands_newDisk_139 f_2_48 rfl rfl ?_
      refine rz_pure (pc' := 143) d_Commands_newDisk_142 rfl ?_
      refine rz_iconst (v := 1) d_Commands_newDisk_143 (by decide) ?_
      refine rz_iadd d_Commands_newDisk_144 ?_
      refine rz_callVi (t := [.int (a1 + 1)]) d_Commands_newDisk_145 w_2_77 rfl rfl rfl ((q1.1 b2).2 b3) (fun xq7 Sq7 q7 => ?_)
      refine rz_pure (pc' := 149) d_Commands_newDisk_148 rfl ?_
      refine rz_getr d_Commands_newDisk_149 f_2_48 rfl rfl ?_
      refine rz_pure (pc' := 153) d_Commands_newDisk_152 rfl ?_
      refine rz_iconst (v := 2) d_Commands_newDisk_153 (by decide) ?_
      refine rz_iadd d_Commands_newDisk_154 ?_
      refine rz_callVi (t := [.int (a1 + 2)]) d_Commands_newDisk_155 w_2_77 rfl rfl rfl q7 (fun xq8 Sq8 q8 => ?_)
      refine rz_callVi (t := [.int xq8, .int xq7]) d_Commands_newDisk_158 w_2_124 rfl rfl rfl q8 (fun xq9 Sq9 q9 => ?_)
      refine rz_pure (pc' := 163) (l' := [(4, .int xq9), (0, .ref 108), (1, .int a1)]) d_Commands_newDisk_161 rfl ?_
      refine rz_pure (pc' := 185) d_Commands_newDisk_163 rfl ?_
      exact rz_pick (ks := [0, 4]) (l := [(0, .ref 108), (4, .int xq9)]) rfl rfl (by decide) rfl q9
  · skip
    refine rz_pure (pc' := 118) d_Commands_newDisk_117 rfl ?_
    refine rz_getr d_Commands_newDisk_118 f_2_38 rfl rfl ?_
    refine rz_bipush (v := 33) d_Commands_newDisk_121 (by decide) ?_
    refine rz_iconst (v := 0) d_Commands_newDisk_123 (by decide) ?_
    refine rz_iconst (v := 0) d_Commands_newDisk_124 (by decide) ?_
    refine rz_callVi (t := [.int 0, .int 0, .int 33]) d_Commands_newDisk_125 w_2_73 rfl rfl rfl (q1.2 b2) (fun xq10 Sq10 q10 => ?_)
    exact rz_ireti d_Commands_newDisk_128 rfl rfl q10
theorem p_Commands_newDisk_185 {S : rz_S} {K : Int32 → rz_S → Prop} {a4 : Int32} (w : ((a4 = 0 → rz_ev mBlockMap_begin [.ref 44, .ref 109] S (rz_v (fun Sq2 => rz_ev mBlockMap_store [.ref 44] Sq2 (rz_i (fun xq3 Sq3 => rz mCommands_newDisk 210 [(0, .ref 108), (4, .int xq3)] [] Sq3 (rz_i K)))))) ∧ (¬ a4 = 0 → rz mCommands_newDisk 210 [(0, .ref 108), (4, .int a4)] [] S (rz_i K)))) : rz mCommands_newDisk 185 [(0, .ref 108), (4, .int a4)] [] S (rz_i K) := by
  refine rz_pure (pc' := 187) d_Commands_newDisk_185 rfl ?_
  refine rz_ifne (tgt := 210) d_Commands_newDisk_187 rfl (fun b1 => ?_) (fun b1 => ?_)
  · skip
    exact rz_pick (ks := [0, 4]) (l := [(0, .ref 108), (4, .int a4)]) rfl rfl (by decide) rfl (w.2 b1)
  · skip
    refine rz_pure (pc' := 191) d_Commands_newDisk_190 rfl ?_
    refine rz_getr d_Commands_newDisk_191 f_2_53 rfl rfl ?_
    refine rz_pure (pc' := 195) d_Commands_newDisk_194 rfl ?_
    refine rz_getr d_Commands_newDisk_195 f_2_12 rfl rfl ?_
    refine rz_callVv (t := [.ref 109]) d_Commands_newDisk_198 w_2_135 rfl rfl rfl (w.1 b1) (fun Sq2 q2 => ?_)
    refine rz_pure (pc' := 202) d_Commands_newDisk_201 rfl ?_
    refine rz_getr d_Commands_newDisk_202 f_2_53 rfl rfl ?_
    refine rz_callVi (t := []) d_Commands_newDisk_205 w_2_140 rfl rfl rfl q2 (fun xq3 Sq3 q3 => ?_)
    refine rz_pure (pc' := 210) (l' := [(4, .int xq3), (0, .ref 108)]) d_Commands_newDisk_208 rfl ?_
    exact rz_pick (ks := [0, 4]) (l := [(0, .ref 108), (4, .int xq3)]) rfl rfl (by decide) rfl q3
theorem p_Commands_newDisk_210 {S : rz_S} {K : Int32 → rz_S → Prop} {a4 : Int32} (w : ((a4 = 0 → rz_ev mDirectory_writeEmpty [.ref 46, .int 7, .int 1] S (rz_i (fun xq2 Sq2 => K xq2 Sq2))) ∧ (¬ a4 = 0 → K a4 S))) : rz mCommands_newDisk 210 [(0, .ref 108), (4, .int a4)] [] S (rz_i K) := by
  refine rz_pure (pc' := 212) d_Commands_newDisk_210 rfl ?_
  refine rz_ifeq (tgt := 220) d_Commands_newDisk_212 rfl (fun b1 => ?_) (fun b1 => ?_)
  · skip
    refine rz_pure (pc' := 221) d_Commands_newDisk_220 rfl ?_
    refine rz_getr d_Commands_newDisk_221 f_2_58 rfl rfl ?_
    refine rz_bipush (v := 7) d_Commands_newDisk_224 (by decide) ?_
    refine rz_iconst (v := 1) d_Commands_newDisk_226 (by decide) ?_
    refine rz_callVi (t := [.int 1, .int 7]) d_Commands_newDisk_227 w_2_143 rfl rfl rfl (w.1 b1) (fun xq2 Sq2 q2 => ?_)
    exact rz_ireti d_Commands_newDisk_230 rfl rfl q2
  · skip
    refine rz_pure (pc' := 217) d_Commands_newDisk_215 rfl ?_
    refine rz_pure (pc' := 230) d_Commands_newDisk_217 rfl ?_
    exact rz_ireti d_Commands_newDisk_230 rfl rfl (w.2 b1)
theorem d_Commands_formatAll_0 : decode (rm_code mCommands_formatAll) 0 = .ok (.aload_n 0, 1) := by decide +kernel
theorem d_Commands_formatAll_1 : decode (rm_code mCommands_formatAll) 1 = .ok (.getfield 24, 3) := by decide +kernel
theorem d_Commands_formatAll_4 : decode (rm_code mCommands_formatAll) 4 = .ok (.invokevirtual 148, 3) := by decide +kernel
theorem d_Commands_formatAll_7 : decode (rm_code mCommands_formatAll) 7 = .ok (.bipush (12), 2) := by decide +kernel
theorem d_Commands_formatAll_9 : decode (rm_code mCommands_formatAll) 9 = .ok (.istore_n 3, 1) := by decide +kernel
theorem d_Commands_formatAll_10 : decode (rm_code mCommands_formatAll) 10 = .ok (.iload_n 3, 1) := by decide +kernel
theorem d_Commands_formatAll_11 : decode (rm_code mCommands_formatAll) 11 = .ok (.iconst 1, 1) := by decide +kernel
theorem d_Commands_formatAll_12 : decode (rm_code mCommands_formatAll) 12 = .ok (.if_icmp .lt (29), 3) := by decide +kernel
theorem d_Commands_formatAll_15 : decode (rm_code mCommands_formatAll) 15 = .ok (.aload_n 0, 1) := by decide +kernel
theorem d_Commands_formatAll_16 : decode (rm_code mCommands_formatAll) 16 = .ok (.getfield 43, 3) := by decide +kernel
theorem d_Commands_formatAll_19 : decode (rm_code mCommands_formatAll) 19 = .ok (.iload_n 3, 1) := by decide +kernel
theorem d_Commands_formatAll_20 : decode (rm_code mCommands_formatAll) 20 = .ok (.iload_n 1, 1) := by decide +kernel
theorem d_Commands_formatAll_21 : decode (rm_code mCommands_formatAll) 21 = .ok (.iload_n 2, 1) := by decide +kernel
theorem d_Commands_formatAll_22 : decode (rm_code mCommands_formatAll) 22 = .ok (.invokevirtual 151, 3) := by decide +kernel
theorem d_Commands_formatAll_25 : decode (rm_code mCommands_formatAll) 25 = .ok (.istore 4, 2) := by decide +kernel
theorem d_Commands_formatAll_27 : decode (rm_code mCommands_formatAll) 27 = .ok (.iload 4, 2) := by decide +kernel
theorem d_Commands_formatAll_29 : decode (rm_code mCommands_formatAll) 29 = .ok (.ifCond .eq (6), 3) := by decide +kernel
theorem d_Commands_formatAll_32 : decode (rm_code mCommands_formatAll) 32 = .ok (.iload 4, 2) := by decide +kernel
theorem d_Commands_formatAll_34 : decode (rm_code mCommands_formatAll) 34 = .ok (.ireturn, 1) := by decide +kernel
theorem d_Commands_formatAll_35 : decode (rm_code mCommands_formatAll) 35 = .ok (.iinc 3 (-1), 3) := by decide +kernel
theorem d_Commands_formatAll_38 : decode (rm_code mCommands_formatAll) 38 = .ok (.goto (-28), 3) := by decide +kernel
theorem d_Commands_formatAll_41 : decode (rm_code mCommands_formatAll) 41 = .ok (.aload_n 0, 1) := by decide +kernel
theorem d_Commands_formatAll_42 : decode (rm_code mCommands_formatAll) 42 = .ok (.getfield 43, 3) := by decide +kernel
theorem d_Commands_formatAll_45 : decode (rm_code mCommands_formatAll) 45 = .ok (.iload_n 1, 1) := by decide +kernel
theorem d_Commands_formatAll_46 : decode (rm_code mCommands_formatAll) 46 = .ok (.iload_n 2, 1) := by decide +kernel
theorem d_Commands_formatAll_47 : decode (rm_code mCommands_formatAll) 47 = .ok (.invokevirtual 154, 3) := by decide +kernel
theorem d_Commands_formatAll_50 : decode (rm_code mCommands_formatAll) 50 = .ok (.iconst 0, 1) := by decide +kernel
theorem d_Commands_formatAll_51 : decode (rm_code mCommands_formatAll) 51 = .ok (.ireturn, 1) := by decide +kernel
theorem p_Commands_formatAll_0 {S : rz_S} {K : Int32 → rz_S → Prop} {a1 : Int32} {a2 : Int32} (w : rz_ev mDos_dropAll [.ref 39] S (rz_v (fun Sq1 => rz mCommands_formatAll 10 [(0, .ref 108), (1, .int a1), (2, .int a2), (3, .int 12)] [] Sq1 (rz_i K)))) : rz mCommands_formatAll 0 [(0, .ref 108), (1, .int a1), (2, .int a2)] [] S (rz_i K) := by
  refine rz_pure (pc' := 1) d_Commands_formatAll_0 rfl ?_
  refine rz_getr d_Commands_formatAll_1 f_2_24 rfl rfl ?_
  refine rz_callVv (t := []) d_Commands_formatAll_4 w_2_148 rfl rfl rfl w (fun Sq1 q1 => ?_)
  refine rz_bipush (v := 12) d_Commands_formatAll_7 (by decide) ?_
  refine rz_pure (pc' := 10) (l' := [(3, .int 12), (0, .ref 108), (1, .int a1), (2, .int a2)]) d_Commands_formatAll_9 rfl ?_
  exact rz_pick (ks := [0, 1, 2, 3]) (l := [(0, .ref 108), (1, .int a1), (2, .int a2), (3, .int 12)]) rfl rfl (by decide) rfl q1
theorem p_Commands_formatAll_10 {S : rz_S} {K : Int32 → rz_S → Prop} {a1 : Int32} {a2 : Int32} {a3 : Int32} (w : ((a3 < 1 → rz_ev mDisk_setId [.ref 6, .int a1, .int a2] S (rz_v (fun Sq2 => K 0 Sq2))) ∧ (¬ a3 < 1 → rz_ev mDisk_format [.ref 6, .int a3, .int a1, .int a2] S (rz_i (fun xq3 Sq3 => ((xq3 = 0 → rz mCommands_formatAll 10 [(0, .ref 108), (1, .int a1), (2, .int a2), (3, .int (a3 + (-1)))] [] Sq3 (rz_i K)) ∧ (¬ xq3 = 0 → K xq3 Sq3))))))) : rz mCommands_formatAll 10 [(0, .ref 108), (1, .int a1), (2, .int a2), (3, .int a3)] [] S (rz_i K) := by
  refine rz_pure (pc' := 11) d_Commands_formatAll_10 rfl ?_
  refine rz_iconst (v := 1) d_Commands_formatAll_11 (by decide) ?_
  refine rz_icmplt (tgt := 41) d_Commands_formatAll_12 rfl (fun b1 => ?_) (fun b1 => ?_)
  · skip
    refine rz_pure (pc' := 42) d_Commands_formatAll_41 rfl ?_
    refine rz_getr d_Commands_formatAll_42 f_2_43 rfl rfl ?_
    refine rz_pure (pc' := 46) d_Commands_formatAll_45 rfl ?_
    refine rz_pure (pc' := 47) d_Commands_formatAll_46 rfl ?_
    refine rz_callVv (t := [.int a2, .int a1]) d_Commands_formatAll_47 w_2_154 rfl rfl rfl (w.1 b1) (fun Sq2 q2 => ?_)
    refine rz_iconst (v := 0) d_Commands_formatAll_50 (by decide) ?_
    exact rz_ireti d_Commands_formatAll_51 rfl rfl q2
  · skip
    refine rz_pure (pc' := 16) d_Commands_formatAll_15 rfl ?_
    refine rz_getr d_Commands_formatAll_16 f_2_43 rfl rfl ?_
    refine rz_pure (pc' := 20) d_Commands_formatAll_19 rfl ?_
    refine rz_pure (pc' := 21) d_Commands_formatAll_20 rfl ?_
    refine rz_pure (pc' := 22) d_Commands_formatAll_21 rfl ?_
    refine rz_callVi (t := [.int a2, .int a1, .int a3]) d_Commands_formatAll_22 w_2_151 rfl rfl rfl (w.2 b1) (fun xq3 Sq3 q3 => ?_)
    refine rz_pure (pc' := 27) (l' := [(4, .int xq3), (0, .ref 108), (1, .int a1), (2, .int a2), (3, .int a3)]) d_Commands_formatAll_25 rfl ?_
    refine rz_pure (pc' := 29) d_Commands_formatAll_27 rfl ?_
    refine rz_ifeq (tgt := 35) d_Commands_formatAll_29 rfl (fun b4 => ?_) (fun b4 => ?_)
    · skip
      refine rz_pure (pc' := 38) (l' := [(3, .int (a3 + (-1))), (4, .int xq3), (0, .ref 108), (1, .int a1), (2, .int a2)]) d_Commands_formatAll_35 rfl ?_
      refine rz_pure (pc' := 10) d_Commands_formatAll_38 rfl ?_
      exact rz_pick (ks := [0, 1, 2, 3]) (l := [(0, .ref 108), (1, .int a1), (2, .int a2), (3, .int (a3 + (-1)))]) rfl rfl (by decide) rfl (q3.1 b4)
    · skip
      refine rz_pure (pc' := 34) d_Commands_formatAll_32 rfl ?_
      exact rz_ireti d_Commands_formatAll_34 rfl rfl (q3.2 b4)
theorem d_Commands_scratch_0 : decode (rm_code mCommands_scratch) 0 = .ok (.aload_n 0, 1) := by decide +kernel
theorem d_Commands_scratch_1 : decode (rm_code mCommands_scratch) 1 = .ok (.getfield 48, 3) := by decide +kernel
theorem d_Commands_scratch_4 : decode (rm_code mCommands_scratch) 4 = .ok (.iconst 1, 1) := by decide +kernel
theorem d_Commands_scratch_5 : decode (rm_code mCommands_scratch) 5 = .ok (.invokevirtual 77, 3) := by decide +kernel
theorem d_Commands_scratch_8 : decode (rm_code mCommands_scratch) 8 = .ok (.bipush (58), 2) := by decide +kernel
theorem d_Commands_scratch_10 : decode (rm_code mCommands_scratch) 10 = .ok (.if_icmp .ne (35), 3) := by decide +kernel
theorem d_Commands_scratch_13 : decode (rm_code mCommands_scratch) 13 = .ok (.aload_n 0, 1) := by decide +kernel
theorem d_Commands_scratch_14 : decode (rm_code mCommands_scratch) 14 = .ok (.getfield 12, 3) := by decide +kernel
theorem d_Commands_scratch_17 : decode (rm_code mCommands_scratch) 17 = .ok (.aload_n 0, 1) := by decide +kernel
theorem d_Commands_scratch_18 : decode (rm_code mCommands_scratch) 18 = .ok (.getfield 48, 3) := by decide +kernel
theorem d_Commands_scratch_21 : decode (rm_code mCommands_scratch) 21 = .ok (.iconst 2, 1) := by decide +kernel
theorem d_Commands_scratch_22 : decode (rm_code mCommands_scratch) 22 = .ok (.aload_n 0, 1) := by decide +kernel
theorem d_Commands_scratch_23 : decode (rm_code mCommands_scratch) 23 = .ok (.getfield 48, 3) := by decide +kernel
theorem d_Commands_scratch_26 : decode (rm_code mCommands_scratch) 26 = .ok (.getfield 62, 3) := by decide +kernel
theorem d_Commands_scratch_29 : decode (rm_code mCommands_scratch) 29 = .ok (.invokevirtual 113, 3) := by decide +kernel
theorem d_Commands_scratch_32 : decode (rm_code mCommands_scratch) 32 = .ok (.ifCond .eq (13), 3) := by decide +kernel
theorem d_Commands_scratch_35 : decode (rm_code mCommands_scratch) 35 = .ok (.aload_n 0, 1) := by decide +kernel
theorem d_Commands_scratch_36 : decode (rm_code mCommands_scratch) 36 = .ok (.getfield 12, 3) := by decide +kernel
theorem d_Commands_scratch_39 : decode (rm_code mCommands_scratch) 39 = .ok (.invokevirtual 117, 3) := by decide +kernel
theorem d_Commands_scratch_42 : decode (rm_code mCommands_scratch) 42 = .ok (.ifCond .eq (15), 3) := by decide +kernel
theorem d_Commands_scratch_45 : decode (rm_code mCommands_scratch) 45 = .ok (.aload_n 0, 1) := by decide +kernel
theorem d_Commands_scratch_46 : decode (rm_code mCommands_scratch) 46 = .ok (.getfield 38, 3) := by decide +kernel
theorem d_Commands_scratch_49 : decode (rm_code mCommands_scratch) 49 = .ok (.bipush (30), 2) := by decide +kernel
theorem d_Commands_scratch_51 : decode (rm_code mCommands_scratch) 51 = .ok (.iconst 0, 1) := by decide +kernel
theorem d_Commands_scratch_52 : decode (rm_code mCommands_scratch) 52 = .ok (.iconst 0, 1) := by decide +kernel
theorem d_Commands_scratch_53 : decode (rm_code mCommands_scratch) 53 = .ok (.invokevirtual 73, 3) := by decide +kernel
theorem d_Commands_scratch_56 : decode (rm_code mCommands_scratch) 56 = .ok (.ireturn, 1) := by decide +kernel
theorem d_Commands_scratch_57 : decode (rm_code mCommands_scratch) 57 = .ok (.iconst 0, 1) := by decide +kernel
theorem d_Commands_scratch_58 : decode (rm_code mCommands_scratch) 58 = .ok (.istore_n 1, 1) := by decide +kernel
theorem d_Commands_scratch_59 : decode (rm_code mCommands_scratch) 59 = .ok (.iconst 1, 1) := by decide +kernel
theorem d_Commands_scratch_60 : decode (rm_code mCommands_scratch) 60 = .ok (.istore_n 2, 1) := by decide +kernel
theorem d_Commands_scratch_61 : decode (rm_code mCommands_scratch) 61 = .ok (.iconst 0, 1) := by decide +kernel
theorem d_Commands_scratch_62 : decode (rm_code mCommands_scratch) 62 = .ok (.istore_n 3, 1) := by decide +kernel
theorem d_Commands_scratch_63 : decode (rm_code mCommands_scratch) 63 = .ok (.iload_n 3, 1) := by decide +kernel
theorem d_Commands_scratch_64 : decode (rm_code mCommands_scratch) 64 = .ok (.sipush (1000), 3) := by decide +kernel
theorem d_Commands_scratch_67 : decode (rm_code mCommands_scratch) 67 = .ok (.if_icmp .ge (71), 3) := by decide +kernel
theorem d_Commands_scratch_70 : decode (rm_code mCommands_scratch) 70 = .ok (.iload_n 2, 1) := by decide +kernel
theorem d_Commands_scratch_71 : decode (rm_code mCommands_scratch) 71 = .ok (.ifCond .eq (67), 3) := by decide +kernel
theorem d_Commands_scratch_74 : decode (rm_code mCommands_scratch) 74 = .ok (.aload_n 0, 1) := by decide +kernel
theorem d_Commands_scratch_75 : decode (rm_code mCommands_scratch) 75 = .ok (.getfield 58, 3) := by decide +kernel
theorem d_Commands_scratch_78 : decode (rm_code mCommands_scratch) 78 = .ok (.invokevirtual 158, 3) := by decide +kernel
theorem d_Commands_scratch_81 : decode (rm_code mCommands_scratch) 81 = .ok (.aload_n 0, 1) := by decide +kernel
theorem d_Commands_scratch_82 : decode (rm_code mCommands_scratch) 82 = .ok (.getfield 58, 3) := by decide +kernel
theorem d_Commands_scratch_85 : decode (rm_code mCommands_scratch) 85 = .ok (.iconst 0, 1) := by decide +kernel
theorem d_Commands_scratch_86 : decode (rm_code mCommands_scratch) 86 = .ok (.aload_n 0, 1) := by decide +kernel
theorem d_Commands_scratch_87 : decode (rm_code mCommands_scratch) 87 = .ok (.getfield 12, 3) := by decide +kernel
theorem d_Commands_scratch_90 : decode (rm_code mCommands_scratch) 90 = .ok (.invokevirtual 161, 3) := by decide +kernel
theorem d_Commands_scratch_93 : decode (rm_code mCommands_scratch) 93 = .ok (.istore 4, 2) := by decide +kernel
theorem d_Commands_scratch_95 : decode (rm_code mCommands_scratch) 95 = .ok (.aload_n 0, 1) := by decide +kernel
theorem d_Commands_scratch_96 : decode (rm_code mCommands_scratch) 96 = .ok (.getfield 58, 3) := by decide +kernel
theorem d_Commands_scratch_99 : decode (rm_code mCommands_scratch) 99 = .ok (.getfield 164, 3) := by decide +kernel
theorem d_Commands_scratch_102 : decode (rm_code mCommands_scratch) 102 = .ok (.istore_n 2, 1) := by decide +kernel
theorem d_Commands_scratch_103 : decode (rm_code mCommands_scratch) 103 = .ok (.iload 4, 2) := by decide +kernel
theorem d_Commands_scratch_105 : decode (rm_code mCommands_scratch) 105 = .ok (.ifCond .ne (19), 3) := by decide +kernel
theorem d_Commands_scratch_108 : decode (rm_code mCommands_scratch) 108 = .ok (.iload_n 2, 1) := by decide +kernel
theorem d_Commands_scratch_109 : decode (rm_code mCommands_scratch) 109 = .ok (.ifCond .eq (15), 3) := by decide +kernel
theorem d_Commands_scratch_112 : decode (rm_code mCommands_scratch) 112 = .ok (.aload_n 0, 1) := by decide +kernel
theorem d_Commands_scratch_113 : decode (rm_code mCommands_scratch) 113 = .ok (.getfield 24, 3) := by decide +kernel
theorem d_Commands_scratch_116 : decode (rm_code mCommands_scratch) 116 = .ok (.invokevirtual 168, 3) := by decide +kernel
theorem d_Commands_scratch_119 : decode (rm_code mCommands_scratch) 119 = .ok (.istore 4, 2) := by decide +kernel
theorem d_Commands_scratch_121 : decode (rm_code mCommands_scratch) 121 = .ok (.iinc 1 (1), 3) := by decide +kernel
theorem d_Commands_scratch_124 : decode (rm_code mCommands_scratch) 124 = .ok (.iload 4, 2) := by decide +kernel
theorem d_Commands_scratch_126 : decode (rm_code mCommands_scratch) 126 = .ok (.ifCond .eq (6), 3) := by decide +kernel
theorem d_Commands_scratch_129 : decode (rm_code mCommands_scratch) 129 = .ok (.iload 4, 2) := by decide +kernel
theorem d_Commands_scratch_131 : decode (rm_code mCommands_scratch) 131 = .ok (.ireturn, 1) := by decide +kernel
theorem d_Commands_scratch_132 : decode (rm_code mCommands_scratch) 132 = .ok (.iinc 3 (1), 3) := by decide +kernel
theorem d_Commands_scratch_135 : decode (rm_code mCommands_scratch) 135 = .ok (.goto (-72), 3) := by decide +kernel
theorem d_Commands_scratch_138 : decode (rm_code mCommands_scratch) 138 = .ok (.aload_n 0, 1) := by decide +kernel
theorem d_Commands_scratch_139 : decode (rm_code mCommands_scratch) 139 = .ok (.getfield 38, 3) := by decide +kernel
theorem d_Commands_scratch_142 : decode (rm_code mCommands_scratch) 142 = .ok (.iconst 1, 1) := by decide +kernel
theorem d_Commands_scratch_143 : decode (rm_code mCommands_scratch) 143 = .ok (.iload_n 1, 1) := by decide +kernel
theorem d_Commands_scratch_144 : decode (rm_code mCommands_scratch) 144 = .ok (.iconst 0, 1) := by decide +kernel
theorem d_Commands_scratch_145 : decode (rm_code mCommands_scratch) 145 = .ok (.invokevirtual 73, 3) := by decide +kernel
theorem d_Commands_scratch_148 : decode (rm_code mCommands_scratch) 148 = .ok (.ireturn, 1) := by decide +kernel
theorem p_Commands_scratch_0 {S : rz_S} {K : Int32 → rz_S → Prop} (w : rz_ev mTape_byteAt [.ref 1, .int 1] S (rz_i (fun xq1 Sq1 => ((xq1 = 58 → rz_ev mPattern_take [.ref 109, .ref 1, .int 2, .int (Sq1.2 1 2)] Sq1 (rz_i (fun xq3 Sq3 => ((xq3 = 0 → rz mCommands_scratch 45 [(0, .ref 108)] [] Sq3 (rz_i K)) ∧ (¬ xq3 = 0 → rz_ev mPattern_isEmpty [.ref 109] Sq3 (rz_i (fun xq5 Sq5 => ((xq5 = 0 → rz mCommands_scratch 63 [(0, .ref 108), (1, .int 0), (2, .int 1), (3, .int 0)] [] Sq5 (rz_i K)) ∧ (¬ xq5 = 0 → rz mCommands_scratch 45 [(0, .ref 108)] [] Sq5 (rz_i K)))))))))) ∧ (¬ xq1 = 58 → rz mCommands_scratch 45 [(0, .ref 108)] [] Sq1 (rz_i K)))))) : rz mCommands_scratch 0 [(0, .ref 108)] [] S (rz_i K) := by
  refine rz_pure (pc' := 1) d_Commands_scratch_0 rfl ?_
  refine rz_getr d_Commands_scratch_1 f_2_48 rfl rfl ?_
  refine rz_iconst (v := 1) d_Commands_scratch_4 (by decide) ?_
  refine rz_callVi (t := [.int 1]) d_Commands_scratch_5 w_2_77 rfl rfl rfl w (fun xq1 Sq1 q1 => ?_)
  refine rz_bipush (v := 58) d_Commands_scratch_8 (by decide) ?_
  refine rz_icmpne (tgt := 45) d_Commands_scratch_10 rfl (fun b2 => ?_) (fun b2 => ?_)
  · skip
    exact rz_pick (ks := [0]) (l := [(0, .ref 108)]) rfl rfl (by decide) rfl (q1.2 b2)
  · skip
    refine rz_pure (pc' := 14) d_Commands_scratch_13 rfl ?_
    refine rz_getr d_Commands_scratch_14 f_2_12 rfl rfl ?_
    refine rz_pure (pc' := 18) d_Commands_scratch_17 rfl ?_
    refine rz_getr d_Commands_scratch_18 f_2_48 rfl rfl ?_
    refine rz_iconst (v := 2) d_Commands_scratch_21 (by decide) ?_
    refine rz_pure (pc' := 23) d_Commands_scratch_22 rfl ?_
    refine rz_getr d_Commands_scratch_23 f_2_48 rfl rfl ?_
    refine rz_getiv (v := Sq1.2 1 2) d_Commands_scratch_26 f_2_62 rfl rfl rfl ?_
    refine rz_callVi (t := [.int (Sq1.2 1 2), .int 2, .ref 1]) d_Commands_scratch_29 w_2_113 rfl rfl rfl (q1.1 b2) (fun xq3 Sq3 q3 => ?_)
    refine rz_ifeq (tgt := 45) d_Commands_scratch_32 rfl (fun b4 => ?_) (fun b4 => ?_)
    · skip
      exact rz_pick (ks := [0]) (l := [(0, .ref 108)]) rfl rfl (by decide) rfl (q3.1 b4)
    · skip
      refine rz_pure (pc' := 36) d_Commands_scratch_35 rfl ?_
      refine rz_getr d_Commands_scratch_36 f_2_12 rfl rfl ?_
      refine rz_callVi (t := []) d_Commands_scratch_39 w_2_117 rfl rfl rfl (q3.2 b4) (fun xq5 Sq5 q5 => ?_)
      refine rz_ifeq (tgt := 57) d_Commands_scratch_42 rfl (fun b6 => ?_) (fun b6 => ?_)
      · skip
        refine rz_iconst (v := 0) d_Commands_scratch_57 (by decide) ?_
        refine rz_pure (pc' := 59) (l' := [(1, .int 0), (0, .ref 108)]) d_Commands_scratch_58 rfl ?_
        refine rz_iconst (v := 1) d_Commands_scratch_59 (by decide) ?_
        refine rz_pure (pc' := 61) (l' := [(2, .int 1), (1, .int 0), (0, .ref 108)]) d_Commands_scratch_60 rfl ?_
        refine rz_iconst (v := 0) d_Commands_scratch_61 (by decide) ?_
        refine rz_pure (pc' := 63) (l' := [(3, .int 0), (2, .int 1), (1, .int 0), (0, .ref 108)]) d_Commands_scratch_62 rfl ?_
        exact rz_pick (ks := [0, 1, 2, 3]) (l := [(0, .ref 108), (1, .int 0), (2, .int 1), (3, .int 0)]) rfl rfl (by decide) rfl (q5.1 b6)
      · skip
        exact rz_pick (ks := [0]) (l := [(0, .ref 108)]) rfl rfl (by decide) rfl (q5.2 b6)
theorem p_Commands_scratch_45 {S : rz_S} {K : Int32 → rz_S → Prop} (w : rz_ev mStatus_set [.ref 3, .int 30, .int 0, .int 0] S (rz_i (fun xq1 Sq1 => K xq1 Sq1))) : rz mCommands_scratch 45 [(0, .ref 108)] [] S (rz_i K) := by
  refine rz_pure (pc' := 46) d_Commands_scratch_45 rfl ?_
  refine rz_getr d_Commands_scratch_46 f_2_38 rfl rfl ?_
  refine rz_bipush (v := 30) d_Commands_scratch_49 (by decide) ?_
  refine rz_iconst (v := 0) d_Commands_scratch_51 (by decide) ?_
  refine rz_iconst (v := 0) d_Commands_scratch_52 (by decide) ?_
  refine rz_callVi (t := [.int 0, .int 0, .int 30]) d_Commands_scratch_53 w_2_73 rfl rfl rfl w (fun xq1 Sq1 q1 => ?_)
  exact rz_ireti d_Commands_scratch_56 rfl rfl q1
theorem p_Commands_scratch_63 {S : rz_S} {K : Int32 → rz_S → Prop} {a1 : Int32} {a2 : Int32} {a3 : Int32} (w : ((1000 ≤ a3 → rz mCommands_scratch 138 [(0, .ref 108), (1, .int a1)] [] S (rz_i K)) ∧ (¬ 1000 ≤ a3 → ((a2 = 0 → rz mCommands_scratch 138 [(0, .ref 108), (1, .int a1)] [] S (rz_i K)) ∧ (¬ a2 = 0 → rz_ev mDirectory_rewind [.ref 46] S (rz_v (fun Sq3 => rz_ev mDirectory_find [.ref 46, .int 0, .ref 109] Sq3 (rz_i (fun xq4 Sq4 => ((xq4 = 0 → ((Sq4.2 46 5 = 0 → rz mCommands_scratch 124 [(0, .ref 108), (1, .int a1), (2, .int (Sq4.2 46 5)), (3, .int a3), (4, .int xq4)] [] Sq4 (rz_i K)) ∧ (¬ Sq4.2 46 5 = 0 → rz_ev mDos_scratchFound [.ref 39] Sq4 (rz_i (fun xq7 Sq7 => rz mCommands_scratch 124 [(0, .ref 108), (1, .int (a1 + 1)), (2, .int (Sq4.2 46 5)), (3, .int a3), (4, .int xq7)] [] Sq7 (rz_i K)))))) ∧ (¬ xq4 = 0 → rz mCommands_scratch 124 [(0, .ref 108), (1, .int a1), (2, .int (Sq4.2 46 5)), (3, .int a3), (4, .int xq4)] [] Sq4 (rz_i K)))))))))))) : rz mCommands_scratch 63 [(0, .ref 108), (1, .int a1), (2, .int a2), (3, .int a3)] [] S (rz_i K) := by
  refine rz_pure (pc' := 64) d_Commands_scratch_63 rfl ?_
  refine rz_sipush (v := 1000) d_Commands_scratch_64 (by decide) ?_
  refine rz_icmpge (tgt := 138) d_Commands_scratch_67 rfl (fun b1 => ?_) (fun b1 => ?_)
  · skip
    exact rz_pick (ks := [0, 1]) (l := [(0, .ref 108), (1, .int a1)]) rfl rfl (by decide) rfl (w.1 b1)
  · skip
    refine rz_pure (pc' := 71) d_Commands_scratch_70 rfl ?_
    refine rz_ifeq (tgt := 138) d_Commands_scratch_71 rfl (fun b2 => ?_) (fun b2 => ?_)
    · skip
      exact rz_pick (ks := [0, 1]) (l := [(0, .ref 108), (1, .int a1)]) rfl rfl (by decide) rfl ((w.2 b1).1 b2)
    · skip
      refine rz_pure (pc' := 75) d_Commands_scratch_74 rfl ?_
      refine rz_getr d_Commands_scratch_75 f_2_58 rfl rfl ?_
      refine rz_callVv (t := []) d_Commands_scratch_78 w_2_158 rfl rfl rfl ((w.2 b1).2 b2) (fun Sq3 q3 => ?_)
      refine rz_pure (pc' := 82) d_Commands_scratch_81 rfl ?_
      refine rz_getr d_Commands_scratch_82 f_2_58 rfl rfl ?_
      refine rz_iconst (v := 0) d_Commands_scratch_85 (by decide) ?_
      refine rz_pure (pc' := 87) d_Commands_scratch_86 rfl ?_
      refine rz_getr d_Commands_scratch_87 f_2_12 rfl rfl ?_
      refine rz_callVi (t := [.ref 109, .int 0]) d_Commands_scratch_90 w_2_161 rfl rfl rfl q3 (fun xq4 Sq4 q4 => ?_)
      refine rz_pure (pc' := 95) (l' := [(4, .int xq4), (0, .ref 108), (1, .int a1), (2, .int a2), (3, .int a3)]) d_Commands_scratch_93 rfl ?_
      refine rz_pure (pc' := 96) d_Commands_scratch_95 rfl ?_
      refine rz_getr d_Commands_scratch_96 f_2_58 rfl rfl ?_
      refine rz_getiv (v := Sq4.2 46 5) d_Commands_scratch_99 f_2_164 rfl rfl rfl ?_
      refine rz_pure (pc' := 103) (l' := [(2, .int (Sq4.2 46 5)), (4, .int xq4), (0, .ref 108), (1, .int a1), (3, .int a3)]) d_Commands_scratch_102 rfl ?_
      refine rz_pure (pc' := 105) d_Commands_scratch_103 rfl ?_
      refine rz_ifne (tgt := 124) d_Commands_scratch_105 rfl (fun b5 => ?_) (fun b5 => ?_)
      · skip
        exact rz_pick (ks := [0, 1, 2, 3, 4]) (l := [(0, .ref 108), (1, .int a1), (2, .int (Sq4.2 46 5)), (3, .int a3), (4, .int xq4)]) rfl rfl (by decide) rfl (q4.2 b5)
      · skip
        refine rz_pure (pc' := 109) d_Commands_scratch_108 rfl ?_
        refine rz_ifeq (tgt := 124) d_Commands_scratch_109 rfl (fun b6 => ?_) (fun b6 => ?_)
        · skip
          exact rz_pick (ks := [0, 1, 2, 3, 4]) (l := [(0, .ref 108), (1, .int a1), (2, .int (Sq4.2 46 5)), (3, .int a3), (4, .int xq4)]) rfl rfl (by decide) rfl ((q4.1 b5).1 b6)
        · skip
          refine rz_pure (pc' := 113) d_Commands_scratch_112 rfl ?_
          refine rz_getr d_Commands_scratch_113 f_2_24 rfl rfl ?_
          refine rz_callVi (t := []) d_Commands_scratch_116 w_2_168 rfl rfl rfl ((q4.1 b5).2 b6) (fun xq7 Sq7 q7 => ?_)
          refine rz_pure (pc' := 121) (l' := [(4, .int xq7), (2, .int (Sq4.2 46 5)), (0, .ref 108), (1, .int a1), (3, .int a3)]) d_Commands_scratch_119 rfl ?_
          refine rz_pure (pc' := 124) (l' := [(1, .int (a1 + 1)), (4, .int xq7), (2, .int (Sq4.2 46 5)), (0, .ref 108), (3, .int a3)]) d_Commands_scratch_121 rfl ?_
          exact rz_pick (ks := [0, 1, 2, 3, 4]) (l := [(0, .ref 108), (1, .int (a1 + 1)), (2, .int (Sq4.2 46 5)), (3, .int a3), (4, .int xq7)]) rfl rfl (by decide) rfl q7
theorem p_Commands_scratch_138 {S : rz_S} {K : Int32 → rz_S → Prop} {a1 : Int32} (w : rz_ev mStatus_set [.ref 3, .int 1, .int a1, .int 0] S (rz_i (fun xq1 Sq1 => K xq1 Sq1))) : rz mCommands_scratch 138 [(0, .ref 108), (1, .int a1)] [] S (rz_i K) := by
  refine rz_pure (pc' := 139) d_Commands_scratch_138 rfl ?_
  refine rz_getr d_Commands_scratch_139 f_2_38 rfl rfl ?_
  refine rz_iconst (v := 1) d_Commands_scratch_142 (by decide) ?_
  refine rz_pure (pc' := 144) d_Commands_scratch_143 rfl ?_
  refine rz_iconst (v := 0) d_Commands_scratch_144 (by decide) ?_
  refine rz_callVi (t := [.int 0, .int a1, .int 1]) d_Commands_scratch_145 w_2_73 rfl rfl rfl w (fun xq1 Sq1 q1 => ?_)
  exact rz_ireti d_Commands_scratch_148 rfl rfl q1
theorem p_Commands_scratch_124 {S : rz_S} {K : Int32 → rz_S → Prop} {a1 : Int32} {a2 : Int32} {a3 : Int32} {a4 : Int32} (w : ((a4 = 0 → rz mCommands_scratch 63 [(0, .ref 108), (1, .int a1), (2, .int a2), (3, .int (a3 + 1))] [] S (rz_i K)) ∧ (¬ a4 = 0 → K a4 S))) : rz mCommands_scratch 124 [(0, .ref 108), (1, .int a1), (2, .int a2), (3, .int a3), (4, .int a4)] [] S (rz_i K) := by
  refine rz_pure (pc' := 126) d_Commands_scratch_124 rfl ?_
  refine rz_ifeq (tgt := 132) d_Commands_scratch_126 rfl (fun b1 => ?_) (fun b1 => ?_)
  · skip
    refine rz_pure (pc' := 135) (l' := [(3, .int (a3 + 1)), (0, .ref 108), (1, .int a1), (2, .int a2), (4, .int a4)]) d_Commands_scratch_132 rfl ?_
    refine rz_pure (pc' := 63) d_Commands_scratch_135 rfl ?_
    exact rz_pick (ks := [0, 1, 2, 3]) (l := [(0, .ref 108), (1, .int a1), (2, .int a2), (3, .int (a3 + 1))]) rfl rfl (by decide) rfl (w.1 b1)
  · skip
    refine rz_pure (pc' := 131) d_Commands_scratch_129 rfl ?_
    exact rz_ireti d_Commands_scratch_131 rfl rfl (w.2 b1)
theorem d_Commands_rename_0 : decode (rm_code mCommands_rename) 0 = .ok (.aload_n 0, 1) := by decide +kernel
theorem d_Commands_rename_1 : decode (rm_code mCommands_rename) 1 = .ok (.getfield 48, 3) := by decide +kernel
theorem d_Commands_rename_4 : decode (rm_code mCommands_rename) 4 = .ok (.bipush (61), 2) := by decide +kernel
theorem d_Commands_rename_6 : decode (rm_code mCommands_rename) 6 = .ok (.iconst 2, 1) := by decide +kernel
theorem d_Commands_rename_7 : decode (rm_code mCommands_rename) 7 = .ok (.invokevirtual 109, 3) := by decide +kernel
theorem d_Commands_rename_10 : decode (rm_code mCommands_rename) 10 = .ok (.istore_n 1, 1) := by decide +kernel
theorem d_Commands_rename_11 : decode (rm_code mCommands_rename) 11 = .ok (.aload_n 0, 1) := by decide +kernel
theorem d_Commands_rename_12 : decode (rm_code mCommands_rename) 12 = .ok (.getfield 48, 3) := by decide +kernel
theorem d_Commands_rename_15 : decode (rm_code mCommands_rename) 15 = .ok (.iconst 1, 1) := by decide +kernel
theorem d_Commands_rename_16 : decode (rm_code mCommands_rename) 16 = .ok (.invokevirtual 77, 3) := by decide +kernel
theorem d_Commands_rename_19 : decode (rm_code mCommands_rename) 19 = .ok (.bipush (58), 2) := by decide +kernel
theorem d_Commands_rename_21 : decode (rm_code mCommands_rename) 21 = .ok (.if_icmp .ne (72), 3) := by decide +kernel
theorem d_Commands_rename_24 : decode (rm_code mCommands_rename) 24 = .ok (.iload_n 1, 1) := by decide +kernel
theorem d_Commands_rename_25 : decode (rm_code mCommands_rename) 25 = .ok (.iconst (-1), 1) := by decide +kernel
theorem d_Commands_rename_26 : decode (rm_code mCommands_rename) 26 = .ok (.if_icmp .eq (67), 3) := by decide +kernel
theorem d_Commands_rename_29 : decode (rm_code mCommands_rename) 29 = .ok (.aload_n 0, 1) := by decide +kernel
theorem d_Commands_rename_30 : decode (rm_code mCommands_rename) 30 = .ok (.getfield 12, 3) := by decide +kernel
theorem d_Commands_rename_33 : decode (rm_code mCommands_rename) 33 = .ok (.aload_n 0, 1) := by decide +kernel
theorem d_Commands_rename_34 : decode (rm_code mCommands_rename) 34 = .ok (.getfield 48, 3) := by decide +kernel
theorem d_Commands_rename_37 : decode (rm_code mCommands_rename) 37 = .ok (.iconst 2, 1) := by decide +kernel
theorem d_Commands_rename_38 : decode (rm_code mCommands_rename) 38 = .ok (.iload_n 1, 1) := by decide +kernel
theorem d_Commands_rename_39 : decode (rm_code mCommands_rename) 39 = .ok (.invokevirtual 113, 3) := by decide +kernel
theorem d_Commands_rename_42 : decode (rm_code mCommands_rename) 42 = .ok (.ifCond .eq (51), 3) := by decide +kernel
theorem d_Commands_rename_45 : decode (rm_code mCommands_rename) 45 = .ok (.aload_n 0, 1) := by decide +kernel
theorem d_Commands_rename_46 : decode (rm_code mCommands_rename) 46 = .ok (.getfield 18, 3) := by decide +kernel
theorem d_Commands_rename_49 : decode (rm_code mCommands_rename) 49 = .ok (.aload_n 0, 1) := by decide +kernel
theorem d_Commands_rename_50 : decode (rm_code mCommands_rename) 50 = .ok (.getfield 48, 3) := by decide +kernel
theorem d_Commands_rename_53 : decode (rm_code mCommands_rename) 53 = .ok (.iload_n 1, 1) := by decide +kernel
theorem d_Commands_rename_54 : decode (rm_code mCommands_rename) 54 = .ok (.iconst 1, 1) := by decide +kernel
theorem d_Commands_rename_55 : decode (rm_code mCommands_rename) 55 = .ok (.iadd, 1) := by decide +kernel
theorem d_Commands_rename_56 : decode (rm_code mCommands_rename) 56 = .ok (.aload_n 0, 1) := by decide +kernel
theorem d_Commands_rename_57 : decode (rm_code mCommands_rename) 57 = .ok (.getfield 48, 3) := by decide +kernel
theorem d_Commands_rename_60 : decode (rm_code mCommands_rename) 60 = .ok (.getfield 62, 3) := by decide +kernel
theorem d_Commands_rename_63 : decode (rm_code mCommands_rename) 63 = .ok (.invokevirtual 113, 3) := by decide +kernel
theorem d_Commands_rename_66 : decode (rm_code mCommands_rename) 66 = .ok (.ifCond .eq (27), 3) := by decide +kernel
theorem d_Commands_rename_69 : decode (rm_code mCommands_rename) 69 = .ok (.aload_n 0, 1) := by decide +kernel
theorem d_Commands_rename_70 : decode (rm_code mCommands_rename) 70 = .ok (.getfield 12, 3) := by decide +kernel
theorem d_Commands_rename_73 : decode (rm_code mCommands_rename) 73 = .ok (.invokevirtual 117, 3) := by decide +kernel
theorem d_Commands_rename_76 : decode (rm_code mCommands_rename) 76 = .ok (.ifCond .ne (17), 3) := by decide +kernel
theorem d_Commands_rename_79 : decode (rm_code mCommands_rename) 79 = .ok (.aload_n 0, 1) := by decide +kernel
theorem d_Commands_rename_80 : decode (rm_code mCommands_rename) 80 = .ok (.getfield 18, 3) := by decide +kernel
theorem d_Commands_rename_83 : decode (rm_code mCommands_rename) 83 = .ok (.invokevirtual 117, 3) := by decide +kernel
theorem d_Commands_rename_86 : decode (rm_code mCommands_rename) 86 = .ok (.ifCond .ne (7), 3) := by decide +kernel
theorem d_Commands_rename_89 : decode (rm_code mCommands_rename) 89 = .ok (.iconst 1, 1) := by decide +kernel
theorem d_Commands_rename_90 : decode (rm_code mCommands_rename) 90 = .ok (.goto (4), 3) := by decide +kernel
theorem d_Commands_rename_93 : decode (rm_code mCommands_rename) 93 = .ok (.iconst 0, 1) := by decide +kernel
theorem d_Commands_rename_94 : decode (rm_code mCommands_rename) 94 = .ok (.istore_n 2, 1) := by decide +kernel
theorem d_Commands_rename_95 : decode (rm_code mCommands_rename) 95 = .ok (.iload_n 2, 1) := by decide +kernel
theorem d_Commands_rename_96 : decode (rm_code mCommands_rename) 96 = .ok (.ifCond .ne (15), 3) := by decide +kernel
theorem d_Commands_rename_99 : decode (rm_code mCommands_rename) 99 = .ok (.aload_n 0, 1) := by decide +kernel
theorem d_Commands_rename_100 : decode (rm_code mCommands_rename) 100 = .ok (.getfield 38, 3) := by decide +kernel
theorem d_Commands_rename_103 : decode (rm_code mCommands_rename) 103 = .ok (.bipush (30), 2) := by decide +kernel
theorem d_Commands_rename_105 : decode (rm_code mCommands_rename) 105 = .ok (.iconst 0, 1) := by decide +kernel
theorem d_Commands_rename_106 : decode (rm_code mCommands_rename) 106 = .ok (.iconst 0, 1) := by decide +kernel
theorem d_Commands_rename_107 : decode (rm_code mCommands_rename) 107 = .ok (.invokevirtual 73, 3) := by decide +kernel
theorem d_Commands_rename_110 : decode (rm_code mCommands_rename) 110 = .ok (.ireturn, 1) := by decide +kernel
theorem d_Commands_rename_111 : decode (rm_code mCommands_rename) 111 = .ok (.aload_n 0, 1) := by decide +kernel
theorem d_Commands_rename_112 : decode (rm_code mCommands_rename) 112 = .ok (.getfield 12, 3) := by decide +kernel
theorem d_Commands_rename_115 : decode (rm_code mCommands_rename) 115 = .ok (.invokevirtual 121, 3) := by decide +kernel
theorem d_Commands_rename_118 : decode (rm_code mCommands_rename) 118 = .ok (.ifCond .ne (13), 3) := by decide +kernel
theorem d_Commands_rename_121 : decode (rm_code mCommands_rename) 121 = .ok (.aload_n 0, 1) := by decide +kernel
theorem d_Commands_rename_122 : decode (rm_code mCommands_rename) 122 = .ok (.getfield 18, 3) := by decide +kernel
theorem d_Commands_rename_125 : decode (rm_code mCommands_rename) 125 = .ok (.invokevirtual 121, 3) := by decide +kernel
theorem d_Commands_rename_128 : decode (rm_code mCommands_rename) 128 = .ok (.ifCond .eq (15), 3) := by decide +kernel
theorem d_Commands_rename_131 : decode (rm_code mCommands_rename) 131 = .ok (.aload_n 0, 1) := by decide +kernel
theorem d_Commands_rename_132 : decode (rm_code mCommands_rename) 132 = .ok (.getfield 38, 3) := by decide +kernel
theorem d_Commands_rename_135 : decode (rm_code mCommands_rename) 135 = .ok (.bipush (33), 2) := by decide +kernel
theorem d_Commands_rename_137 : decode (rm_code mCommands_rename) 137 = .ok (.iconst 0, 1) := by decide +kernel
theorem d_Commands_rename_138 : decode (rm_code mCommands_rename) 138 = .ok (.iconst 0, 1) := by decide +kernel
theorem d_Commands_rename_139 : decode (rm_code mCommands_rename) 139 = .ok (.invokevirtual 73, 3) := by decide +kernel
theorem d_Commands_rename_142 : decode (rm_code mCommands_rename) 142 = .ok (.ireturn, 1) := by decide +kernel
theorem d_Commands_rename_143 : decode (rm_code mCommands_rename) 143 = .ok (.aload_n 0, 1) := by decide +kernel
theorem d_Commands_rename_144 : decode (rm_code mCommands_rename) 144 = .ok (.getfield 58, 3) := by decide +kernel
theorem d_Commands_rename_147 : decode (rm_code mCommands_rename) 147 = .ok (.invokevirtual 158, 3) := by decide +kernel
theorem d_Commands_rename_150 : decode (rm_code mCommands_rename) 150 = .ok (.aload_n 0, 1) := by decide +kernel
theorem d_Commands_rename_151 : decode (rm_code mCommands_rename) 151 = .ok (.getfield 58, 3) := by decide +kernel
theorem d_Commands_rename_154 : decode (rm_code mCommands_rename) 154 = .ok (.iconst 1, 1) := by decide +kernel
theorem d_Commands_rename_155 : decode (rm_code mCommands_rename) 155 = .ok (.aload_n 0, 1) := by decide +kernel
theorem d_Commands_rename_156 : decode (rm_code mCommands_rename) 156 = .ok (.getfield 12, 3) := by decide +kernel
theorem d_Commands_rename_159 : decode (rm_code mCommands_rename) 159 = .ok (.invokevirtual 161, 3) := by decide +kernel
theorem d_Commands_rename_162 : decode (rm_code mCommands_rename) 162 = .ok (.istore_n 3, 1) := by decide +kernel
theorem d_Commands_rename_163 : decode (rm_code mCommands_rename) 163 = .ok (.iload_n 3, 1) := by decide +kernel
theorem d_Commands_rename_164 : decode (rm_code mCommands_rename) 164 = .ok (.ifCond .ne (25), 3) := by decide +kernel
theorem d_Commands_rename_167 : decode (rm_code mCommands_rename) 167 = .ok (.aload_n 0, 1) := by decide +kernel
theorem d_Commands_rename_168 : decode (rm_code mCommands_rename) 168 = .ok (.getfield 58, 3) := by decide +kernel
theorem d_Commands_rename_171 : decode (rm_code mCommands_rename) 171 = .ok (.getfield 164, 3) := by decide +kernel
theorem d_Commands_rename_174 : decode (rm_code mCommands_rename) 174 = .ok (.ifCond .eq (15), 3) := by decide +kernel
theorem d_Commands_rename_177 : decode (rm_code mCommands_rename) 177 = .ok (.aload_n 0, 1) := by decide +kernel
theorem d_Commands_rename_178 : decode (rm_code mCommands_rename) 178 = .ok (.getfield 38, 3) := by decide +kernel
theorem d_Commands_rename_181 : decode (rm_code mCommands_rename) 181 = .ok (.bipush (63), 2) := by decide +kernel
theorem d_Commands_rename_183 : decode (rm_code mCommands_rename) 183 = .ok (.iconst 0, 1) := by decide +kernel
theorem d_Commands_rename_184 : decode (rm_code mCommands_rename) 184 = .ok (.iconst 0, 1) := by decide +kernel
theorem d_Commands_rename_185 : decode (rm_code mCommands_rename) 185 = .ok (.invokevirtual 73, 3) := by decide +kernel
theorem d_Commands_rename_188 : decode (rm_code mCommands_rename) 188 = .ok (.ireturn, 1) := by decide +kernel
theorem d_Commands_rename_189 : decode (rm_code mCommands_rename) 189 = .ok (.iload_n 3, 1) := by decide +kernel
theorem d_Commands_rename_190 : decode (rm_code mCommands_rename) 190 = .ok (.ifCond .ne (23), 3) := by decide +kernel
theorem d_Commands_rename_193 : decode (rm_code mCommands_rename) 193 = .ok (.aload_n 0, 1) := by decide +kernel
theorem d_Commands_rename_194 : decode (rm_code mCommands_rename) 194 = .ok (.getfield 58, 3) := by decide +kernel
theorem d_Commands_rename_197 : decode (rm_code mCommands_rename) 197 = .ok (.invokevirtual 158, 3) := by decide +kernel
theorem d_Commands_rename_200 : decode (rm_code mCommands_rename) 200 = .ok (.aload_n 0, 1) := by decide +kernel
theorem d_Commands_rename_201 : decode (rm_code mCommands_rename) 201 = .ok (.getfield 58, 3) := by decide +kernel
theorem d_Commands_rename_204 : decode (rm_code mCommands_rename) 204 = .ok (.iconst 1, 1) := by decide +kernel
theorem d_Commands_rename_205 : decode (rm_code mCommands_rename) 205 = .ok (.aload_n 0, 1) := by decide +kernel
theorem d_Commands_rename_206 : decode (rm_code mCommands_rename) 206 = .ok (.getfield 18, 3) := by decide +kernel
theorem d_Commands_rename_209 : decode (rm_code mCommands_rename) 209 = .ok (.invokevirtual 161, 3) := by decide +kernel
theorem d_Commands_rename_212 : decode (rm_code mCommands_rename) 212 = .ok (.istore_n 3, 1) := by decide +kernel
theorem d_Commands_rename_213 : decode (rm_code mCommands_rename) 213 = .ok (.iload_n 3, 1) := by decide +kernel
theorem d_Commands_rename_214 : decode (rm_code mCommands_rename) 214 = .ok (.ifCond .ne (25), 3) := by decide +kernel
theorem d_Commands_rename_217 : decode (rm_code mCommands_rename) 217 = .ok (.aload_n 0, 1) := by decide +kernel
theorem d_Commands_rename_218 : decode (rm_code mCommands_rename) 218 = .ok (.getfield 58, 3) := by decide +kernel
theorem d_Commands_rename_221 : decode (rm_code mCommands_rename) 221 = .ok (.getfield 164, 3) := by decide +kernel
theorem d_Commands_rename_224 : decode (rm_code mCommands_rename) 224 = .ok (.ifCond .ne (15), 3) := by decide +kernel
theorem d_Commands_rename_227 : decode (rm_code mCommands_rename) 227 = .ok (.aload_n 0, 1) := by decide +kernel
theorem d_Commands_rename_228 : decode (rm_code mCommands_rename) 228 = .ok (.getfield 38, 3) := by decide +kernel
theorem d_Commands_rename_231 : decode (rm_code mCommands_rename) 231 = .ok (.bipush (62), 2) := by decide +kernel
theorem d_Commands_rename_233 : decode (rm_code mCommands_rename) 233 = .ok (.iconst 0, 1) := by decide +kernel
theorem d_Commands_rename_234 : decode (rm_code mCommands_rename) 234 = .ok (.iconst 0, 1) := by decide +kernel
theorem d_Commands_rename_235 : decode (rm_code mCommands_rename) 235 = .ok (.invokevirtual 73, 3) := by decide +kernel
theorem d_Commands_rename_238 : decode (rm_code mCommands_rename) 238 = .ok (.ireturn, 1) := by decide +kernel
theorem d_Commands_rename_239 : decode (rm_code mCommands_rename) 239 = .ok (.iload_n 3, 1) := by decide +kernel
theorem d_Commands_rename_240 : decode (rm_code mCommands_rename) 240 = .ok (.ifCond .eq (7), 3) := by decide +kernel
theorem d_Commands_rename_243 : decode (rm_code mCommands_rename) 243 = .ok (.iload_n 3, 1) := by decide +kernel
theorem d_Commands_rename_244 : decode (rm_code mCommands_rename) 244 = .ok (.goto (14), 3) := by decide +kernel
theorem d_Commands_rename_247 : decode (rm_code mCommands_rename) 247 = .ok (.aload_n 0, 1) := by decide +kernel
theorem d_Commands_rename_248 : decode (rm_code mCommands_rename) 248 = .ok (.getfield 58, 3) := by decide +kernel
theorem d_Commands_rename_251 : decode (rm_code mCommands_rename) 251 = .ok (.aload_n 0, 1) := by decide +kernel
theorem d_Commands_rename_252 : decode (rm_code mCommands_rename) 252 = .ok (.getfield 12, 3) := by decide +kernel
theorem d_Commands_rename_255 : decode (rm_code mCommands_rename) 255 = .ok (.invokevirtual 171, 3) := by decide +kernel
theorem d_Commands_rename_258 : decode (rm_code mCommands_rename) 258 = .ok (.ireturn, 1) := by decide +kernel
theorem p_Commands_rename_0 {S : rz_S} {K : Int32 → rz_S → Prop} (w : rz_ev mTape_find [.ref 1, .int 61, .int 2] S (rz_i (fun xq1 Sq1 => rz_ev mTape_byteAt [.ref 1, .int 1] Sq1 (rz_i (fun xq2 Sq2 => ((xq2 = 58 → ((xq1 = (-1) → rz mCommands_rename 93 [(0, .ref 108)] [] Sq2 (rz_i K)) ∧ (¬ xq1 = (-1) → rz_ev mPattern_take [.ref 109, .ref 1, .int 2, .int xq1] Sq2 (rz_i (fun xq5 Sq5 => ((xq5 = 0 → rz mCommands_rename 93 [(0, .ref 108)] [] Sq5 (rz_i K)) ∧ (¬ xq5 = 0 → rz_ev mPattern_take [.ref 111, .ref 1, .int (xq1 + 1), .int (Sq5.2 1 2)] Sq5 (rz_i (fun xq7 Sq7 => ((xq7 = 0 → rz mCommands_rename 93 [(0, .ref 108)] [] Sq7 (rz_i K)) ∧ (¬ xq7 = 0 → rz_ev mPattern_isEmpty [.ref 109] Sq7 (rz_i (fun xq9 Sq9 => ((xq9 = 0 → rz_ev mPattern_isEmpty [.ref 111] Sq9 (rz_i (fun xq11 Sq11 => ((xq11 = 0 → rz mCommands_rename 94 [(0, .ref 108)] [.int 1] Sq11 (rz_i K)) ∧ (¬ xq11 = 0 → rz mCommands_rename 93 [(0, .ref 108)] [] Sq11 (rz_i K)))))) ∧ (¬ xq9 = 0 → rz mCommands_rename 93 [(0, .ref 108)] [] Sq9 (rz_i K)))))))))))))))) ∧ (¬ xq2 = 58 → rz mCommands_rename 93 [(0, .ref 108)] [] Sq2 (rz_i K)))))))) : rz mCommands_rename 0 [(0, .ref 108)] [] S (rz_i K) := by
  refine rz_pure (pc' := 1) d_Commands_rename_0 rfl ?_
  refine rz_getr d_Commands_rename_1 f_2_48 rfl rfl ?_
  refine rz_bipush (v := 61) d_Commands_rename_4 (by decide) ?_
  refine rz_iconst (v := 2) d_Commands_rename_6 (by decide) ?_
  refine rz_callVi (t := [.int 2, .int 61]) d_Commands_rename_7 w_2_109 rfl rfl rfl w (fun xq1 Sq1 q1 => ?_)
  refine rz_pure (pc' := 11) (l' := [(1, .int xq1), (0, .ref 108)]) d_Commands_rename_10 rfl ?_
  refine rz_pure (pc' := 12) d_Commands_rename_11 rfl ?_
  refine rz_getr d_Commands_rename_12 f_2_48 rfl rfl ?_
  refine rz_iconst (v := 1) d_Commands_rename_15 (by decide) ?_
  refine rz_callVi (t := [.int 1]) d_Commands_rename_16 w_2_77 rfl rfl rfl q1 (fun xq2 Sq2 q2 => ?_)
  refine rz_bipush (v := 58) d_Commands_rename_19 (by decide) ?_
  refine rz_icmpne (tgt := 93) d_Commands_rename_21 rfl (fun b3 => ?_) (fun b3 => ?_)
  · skip
    exact rz_pick (ks := [0]) (l := [(0, .ref 108)]) rfl rfl (by decide) rfl (q2.2 b3)
  · skip
    refine rz_pure (pc' := 25) d_Commands_rename_24 rfl ?_
    refine rz_iconst (v := -1) d_Commands_rename_25 (by decide) ?_
    refine rz_icmpeq (tgt := 93) d_Commands_rename_26 rfl (fun b4 => ?_) (fun b4 => ?_)
    · skip
      exact rz_pick (ks := [0]) (l := [(0, .ref 108)]) rfl rfl (by decide) rfl ((q2.1 b3).1 b4)
    · skip
      refine rz_pure (pc' := 30) d_Commands_rename_29 rfl ?_
      refine rz_getr d_Commands_rename_30 f_2_12 rfl rfl ?_
      refine rz_pure (pc' := 34) d_Commands_rename_33 rfl ?_
      refine rz_getr d_Commands_rename_34 f_2_48 rfl rfl ?_
      refine rz_iconst (v := 2) d_Commands_rename_37 (by decide) ?_
      refine rz_pure (pc' := 39) d_Commands_rename_38 rfl ?_
      refine rz_callVi (t := [.int xq1, .int 2, .ref 1]) d_Commands_rename_39 w_2_113 rfl rfl rfl ((q2.1 b3).2 b4) (fun xq5 Sq5 q5 => ?_)
      refine rz_ifeq (tgt := 93) d_Commands_rename_42 rfl (fun b6 => ?_) (fun b6 => ?_)
      · skip
        exact rz_pick (ks := [0]) (l := [(0, .ref 108)]) rfl rfl (by decide) rfl (q5.1 b6)
      · skip
        refine rz_pure (pc' := 46) d_Commands_rename_45 rfl ?_
        refine rz_getr d_Commands_rename_46 f_2_18 rfl rfl ?_
        refine rz_pure (pc' := 50) d_Commands_rename_49 rfl ?_
        refine rz_getr d_Commands_rename_50 f_2_48 rfl rfl ?_
        refine rz_pure (pc' := 54) d_Commands_rename_53 rfl ?_
        refine rz_iconst (v := 1) d_Commands_rename_54 (by decide) ?_
        refine rz_iadd d_Commands_rename_55 ?_
        refine rz_pure (pc' := 57) d_Commands_rename_56 rfl ?_
        refine rz_getr d_Commands_rename_57 f_2_48 rfl rfl ?_
        refine rz_getiv (v := Sq5.2 1 2) d_Commands_rename_60 f_2_62 rfl rfl rfl ?_
        refine rz_callVi (t := [.int (Sq5.2 1 2), .int (xq1 + 1), .ref 1]) d_Commands_rename_63 w_2_113 rfl rfl rfl (q5.2 b6) (fun xq7 Sq7 q7 => ?_)
        refine rz_ifeq (tgt := 93) d_Commands_rename_66 rfl (fun b8 => ?_) (fun b8 => ?_)
        · skip
          exact rz_pick (ks := [0]) (l := [(0, .ref 108)]) rfl rfl (by decide) rfl (q7.1 b8)
        · skip
          refine rz_pure (pc' := 70) d_Commands_rename_69 rfl ?_
          refine rz_getr d_Commands_rename_70 f_2_12 rfl rfl ?_
          refine rz_callVi (t := []) d_Commands_rename_73 w_2_117 rfl rfl rfl (q7.2 b8) (fun xq9 Sq9 q9 => ?_)
          refine rz_ifne (tgt := 93) d_Commands_rename_76 rfl (fun b10 => ?_) (fun b10 => ?_)
          · skip
            exact rz_pick (ks := [0]) (l := [(0, .ref 108)]) rfl rfl (by decide) rfl (q9.2 b10)
          · skip
            refine rz_pure (pc' := 80) d_Commands_rename_79 rfl ?_
            refine rz_getr d_Commands_rename_80 f_2_18 rfl rfl ?_
            refine rz_callVi (t := []) d_Commands_rename_83 w_2_117 rfl rfl rfl (q9.1 b10) (fun xq11 Sq11 q11 => ?_)
            refine rz_ifne (tgt := 93) d_Commands_rename_86 rfl (fun b12 => ?_) (fun b12 => ?_)
            · skip
              exact rz_pick (ks := [0]) (l := [(0, .ref 108)]) rfl rfl (by decide) rfl (q11.2 b12)
            · skip
              refine rz_iconst (v := 1) d_Commands_rename_89 (by decide) ?_
              refine rz_pure (pc' := 94) d_Commands_rename_90 rfl ?_
              exact rz_pick (ks := [0]) (l := [(0, .ref 108)]) rfl rfl (by decide) rfl (q11.1 b12)
theorem p_Commands_rename_93 {S : rz_S} {K : Int32 → rz_S → Prop} (w : rz mCommands_rename 94 [(0, .ref 108)] [.int 0] S (rz_i K)) : rz mCommands_rename 93 [(0, .ref 108)] [] S (rz_i K) := by
  refine rz_iconst (v := 0) d_Commands_rename_93 (by decide) ?_
  exact rz_pick (ks := [0]) (l := [(0, .ref 108)]) rfl rfl (by decide) rfl w
theorem p_Commands_rename_94 {S : rz_S} {K : Int32 → rz_S → Prop} {s0 : Int32} (w : ((s0 = 0 → rz_ev mStatus_set [.ref 3, .int 30, .int 0, .int 0] S (rz_i (fun xq11 Sq11 => K xq11 Sq11))) ∧ (¬ s0 = 0 → rz_ev mPattern_isWild [.ref 109] S (rz_i (fun xq2 Sq2 => ((xq2 = 0 → rz_ev mPattern_isWild [.ref 111] Sq2 (rz_i (fun xq4 Sq4 => ((xq4 = 0 → rz_ev mDirectory_rewind [.ref 46] Sq4 (rz_v (fun Sq6 => rz_ev mDirectory_find [.ref 46, .int 1, .ref 109] Sq6 (rz_i (fun xq7 Sq7 => ((xq7 = 0 → ((Sq7.2 46 5 = 0 → rz mCommands_rename 189 [(0, .ref 108), (3, .int xq7)] [] Sq7 (rz_i K)) ∧ (¬ Sq7.2 46 5 = 0 → rz_ev mStatus_set [.ref 3, .int 63, .int 0, .int 0] Sq7 (rz_i (fun xq10 Sq10 => K xq10 Sq10))))) ∧ (¬ xq7 = 0 → rz mCommands_rename 189 [(0, .ref 108), (3, .int xq7)] [] Sq7 (rz_i K)))))))) ∧ (¬ xq4 = 0 → rz mCommands_rename 131 [(0, .ref 108)] [] Sq4 (rz_i K)))))) ∧ (¬ xq2 = 0 → rz mCommands_rename 131 [(0, .ref 108)] [] Sq2 (rz_i K)))))))) : rz mCommands_rename 94 [(0, .ref 108)] [.int s0] S (rz_i K) := by
  refine rz_pure (pc' := 95) (l' := [(2, .int s0), (0, .ref 108)]) d_Commands_rename_94 rfl ?_
  refine rz_pure (pc' := 96) d_Commands_rename_95 rfl ?_
  refine rz_ifne (tgt := 111) d_Commands_rename_96 rfl (fun b1 => ?_) (fun b1 => ?_)
  · skip
    refine rz_pure (pc' := 112) d_Commands_rename_111 rfl ?_
    refine rz_getr d_Commands_rename_112 f_2_12 rfl rfl ?_
    refine rz_callVi (t := []) d_Commands_rename_115 w_2_121 rfl rfl rfl (w.2 b1) (fun xq2 Sq2 q2 => ?_)
    refine rz_ifne (tgt := 131) d_Commands_rename_118 rfl (fun b3 => ?_) (fun b3 => ?_)
    · skip
      exact rz_pick (ks := [0]) (l := [(0, .ref 108)]) rfl rfl (by decide) rfl (q2.2 b3)
    · skip
      refine rz_pure (pc' := 122) d_Commands_rename_121 rfl ?_
      refine rz_getr d_Commands_rename_122 f_2_18 rfl rfl ?_
      refine rz_callVi (t := []) d_Commands_rename_125 w_2_121 rfl rfl rfl (q2.1 b3) (fun xq4 Sq4 q4 => ?_)
      refine rz_ifeq (tgt := 143) d_Commands_rename_128 rfl (fun b5 => ?_) (fun b5 => ?_)
      · skip
        refine rz_pure (pc' := 144) d_Commands_rename_143 rfl ?_
        refine rz_getr d_Commands_rename_144 f_2_58 rfl rfl ?_
        refine rz_callVv (t := []) d_Commands_rename_147 w_2_158 rfl rfl rfl (q4.1 b5) (fun Sq6 q6 => ?_)
        refine rz_pure (pc' := 151) d_Commands_rename_150 rfl ?_
        refine rz_getr d_Commands_rename_151 f_2_58 rfl rfl ?_
        refine rz_iconst (v := 1) d_Commands_rename_154 (by decide) ?_
        refine rz_pure (pc' := 156) d_Commands_rename_155 rfl ?_
        refine rz_getr d_Commands_rename_156 f_2_12 rfl rfl ?_
        refine rz_callVi (t := [.ref 109, .int 1]) d_Commands_rename_159 w_2_161 rfl rfl rfl q6 (fun xq7 Sq7 q7 => ?_)
        refine rz_pure (pc' := 163) (l' := [(3, .int xq7), (2, .int s0), (0, .ref 108)]) d_Commands_rename_162 rfl ?_
        refine rz_pure (pc' := 164) d_Commands_rename_163 rfl ?_
        refine rz_ifne (tgt := 189) d_Commands_rename_164 rfl (fun b8 => ?_) (fun b8 => ?_)
        · skip
          exact rz_pick (ks := [0, 3]) (l := [(0, .ref 108), (3, .int xq7)]) rfl rfl (by decide) rfl (q7.2 b8)
        · skip
          refine rz_pure (pc' := 168) d_Commands_rename_167 rfl ?_
          refine rz_getr d_Commands_rename_168 f_2_58 rfl rfl ?_
          refine rz_getiv (v := Sq7.2 46 5) d_Commands_rename_171 f_2_164 rfl rfl rfl ?_
          refine rz_ifeq (tgt := 189) d_Commands_rename_174 rfl (fun b9 => ?_) (fun b9 => ?_)
          · skip
            exact rz_pick (ks := [0, 3]) (l := [(0, .ref 108), (3, .int xq7)]) rfl rfl (by decide) rfl ((q7.1 b8).1 b9)
          · skip
            refine rz_pure (pc' := 178) d_Commands_rename_177 rfl ?_
            refine rz_getr d_Commands_rename_178 f_2_38 rfl rfl ?_
            refine rz_bipush (v := 63) d_Commands_rename_181 (by decide) ?_
            refine rz_iconst (v := 0) d_Commands_rename_183 (by decide) ?_
            refine rz_iconst (v := 0) d_Commands_rename_184 (by decide) ?_
            refine rz_callVi (t := [.int 0, .int 0, .int 63]) d_Commands_rename_185 w_2_73 rfl rfl rfl ((q7.1 b8).2 b9) (fun xq10 Sq10 q10 => ?_)
            exact rz_ireti d_Commands_rename_188 rfl rfl q10
      · skip
        exact rz_pick (ks := [0]) (l := [(0, .ref 108)]) rfl rfl (by decide) rfl (q4.2 b5)
  · skip
    refine rz_pure (pc' := 100) d_Commands_rename_99 rfl ?_
    refine rz_getr d_Commands_rename_100 f_2_38 rfl rfl ?_
    refine rz_bipush (v := 30) d_Commands_rename_103 (by decide) ?_
    refine rz_iconst (v := 0) d_Commands_rename_105 (by decide) ?_
    refine rz_iconst (v := 0) d_Commands_rename_106 (by decide) ?_
    refine rz_callVi (t := [.int 0, .int 0, .int 30]) d_Commands_rename_107 w_2_73 rfl rfl rfl (w.1 b1) (fun xq11 Sq11 q11 => ?_)
    exact rz_ireti d_Commands_rename_110 rfl rfl q11
theorem p_Commands_rename_131 {S : rz_S} {K : Int32 → rz_S → Prop} (w : rz_ev mStatus_set [.ref 3, .int 33, .int 0, .int 0] S (rz_i (fun xq1 Sq1 => K xq1 Sq1))) : rz mCommands_rename 131 [(0, .ref 108)] [] S (rz_i K) := by
  refine rz_pure (pc' := 132) d_Commands_rename_131 rfl ?_
  refine rz_getr d_Commands_rename_132 f_2_38 rfl rfl ?_
  refine rz_bipush (v := 33) d_Commands_rename_135 (by decide) ?_
  refine rz_iconst (v := 0) d_Commands_rename_137 (by decide) ?_
  refine rz_iconst (v := 0) d_Commands_rename_138 (by decide) ?_
  refine rz_callVi (t := [.int 0, .int 0, .int 33]) d_Commands_rename_139 w_2_73 rfl rfl rfl w (fun xq1 Sq1 q1 => ?_)
  exact rz_ireti d_Commands_rename_142 rfl rfl q1
theorem p_Commands_rename_189 {S : rz_S} {K : Int32 → rz_S → Prop} {a3 : Int32} (w : ((a3 = 0 → rz_ev mDirectory_rewind [.ref 46] S (rz_v (fun Sq2 => rz_ev mDirectory_find [.ref 46, .int 1, .ref 111] Sq2 (rz_i (fun xq3 Sq3 => rz mCommands_rename 213 [(0, .ref 108), (3, .int xq3)] [] Sq3 (rz_i K)))))) ∧ (¬ a3 = 0 → rz mCommands_rename 213 [(0, .ref 108), (3, .int a3)] [] S (rz_i K)))) : rz mCommands_rename 189 [(0, .ref 108), (3, .int a3)] [] S (rz_i K) := by
  refine rz_pure (pc' := 190) d_Commands_rename_189 rfl ?_
  refine rz_ifne (tgt := 213) d_Commands_rename_190 rfl (fun b1 => ?_) (fun b1 => ?_)
  · skip
    exact rz_pick (ks := [0, 3]) (l := [(0, .ref 108), (3, .int a3)]) rfl rfl (by decide) rfl (w.2 b1)
  · skip
    refine rz_pure (pc' := 194) d_Commands_rename_193 rfl ?_
    refine rz_getr d_Commands_rename_194 f_2_58 rfl rfl ?_
    refine rz_callVv (t := []) d_Commands_rename_197 w_2_158 rfl rfl rfl (w.1 b1) (fun Sq2 q2 => ?_)
    refine rz_pure (pc' := 201) d_Commands_rename_200 rfl ?_
    refine rz_getr d_Commands_rename_201 f_2_58 rfl rfl ?_
    refine rz_iconst (v := 1) d_Commands_rename_204 (by decide) ?_
    refine rz_pure (pc' := 206) d_Commands_rename_205 rfl ?_
    refine rz_getr d_Commands_rename_206 f_2_18 rfl rfl ?_
    refine rz_callVi (t := [.ref 111, .int 1]) d_Commands_rename_209 w_2_161 rfl rfl rfl q2 (fun xq3 Sq3 q3 => ?_)
    refine rz_pure (pc' := 213) (l' := [(3, .int xq3), (0, .ref 108)]) d_Commands_rename_212 rfl ?_
    exact rz_pick (ks := [0, 3]) (l := [(0, .ref 108), (3, .int xq3)]) rfl rfl (by decide) rfl q3
theorem p_Commands_rename_213 {S : rz_S} {K : Int32 → rz_S → Prop} {a3 : Int32} (w : ((a3 = 0 → ((S.2 46 5 = 0 → rz_ev mStatus_set [.ref 3, .int 62, .int 0, .int 0] S (rz_i (fun xq3 Sq3 => K xq3 Sq3))) ∧ (¬ S.2 46 5 = 0 → rz mCommands_rename 239 [(0, .ref 108), (3, .int a3)] [] S (rz_i K)))) ∧ (¬ a3 = 0 → rz mCommands_rename 239 [(0, .ref 108), (3, .int a3)] [] S (rz_i K)))) : rz mCommands_rename 213 [(0, .ref 108), (3, .int a3)] [] S (rz_i K) := by
  refine rz_pure (pc' := 214) d_Commands_rename_213 rfl ?_
  refine rz_ifne (tgt := 239) d_Commands_rename_214 rfl (fun b1 => ?_) (fun b1 => ?_)
  · skip
    exact rz_pick (ks := [0, 3]) (l := [(0, .ref 108), (3, .int a3)]) rfl rfl (by decide) rfl (w.2 b1)
  · skip
    refine rz_pure (pc' := 218) d_Commands_rename_217 rfl ?_
    refine rz_getr d_Commands_rename_218 f_2_58 rfl rfl ?_
    refine rz_getiv (v := S.2 46 5) d_Commands_rename_221 f_2_164 rfl rfl rfl ?_
    refine rz_ifne (tgt := 239) d_Commands_rename_224 rfl (fun b2 => ?_) (fun b2 => ?_)
    · skip
      exact rz_pick (ks := [0, 3]) (l := [(0, .ref 108), (3, .int a3)]) rfl rfl (by decide) rfl ((w.1 b1).2 b2)
    · skip
      refine rz_pure (pc' := 228) d_Commands_rename_227 rfl ?_
      refine rz_getr d_Commands_rename_228 f_2_38 rfl rfl ?_
      refine rz_bipush (v := 62) d_Commands_rename_231 (by decide) ?_
      refine rz_iconst (v := 0) d_Commands_rename_233 (by decide) ?_
      refine rz_iconst (v := 0) d_Commands_rename_234 (by decide) ?_
      refine rz_callVi (t := [.int 0, .int 0, .int 62]) d_Commands_rename_235 w_2_73 rfl rfl rfl ((w.1 b1).1 b2) (fun xq3 Sq3 q3 => ?_)
      exact rz_ireti d_Commands_rename_238 rfl rfl q3
theorem p_Commands_rename_239 {S : rz_S} {K : Int32 → rz_S → Prop} {a3 : Int32} (w : ((a3 = 0 → rz_ev mDirectory_changeName [.ref 46, .ref 109] S (rz_i (fun xq2 Sq2 => K xq2 Sq2))) ∧ (¬ a3 = 0 → K a3 S))) : rz mCommands_rename 239 [(0, .ref 108), (3, .int a3)] [] S (rz_i K) := by
  refine rz_pure (pc' := 240) d_Commands_rename_239 rfl ?_
  refine rz_ifeq (tgt := 247) d_Commands_rename_240 rfl (fun b1 => ?_) (fun b1 => ?_)
  · skip
    refine rz_pure (pc' := 248) d_Commands_rename_247 rfl ?_
    refine rz_getr d_Commands_rename_248 f_2_58 rfl rfl ?_
    refine rz_pure (pc' := 252) d_Commands_rename_251 rfl ?_
    refine rz_getr d_Commands_rename_252 f_2_12 rfl rfl ?_
    refine rz_callVi (t := [.ref 109]) d_Commands_rename_255 w_2_171 rfl rfl rfl (w.1 b1) (fun xq2 Sq2 q2 => ?_)
    exact rz_ireti d_Commands_rename_258 rfl rfl q2
  · skip
    refine rz_pure (pc' := 244) d_Commands_rename_243 rfl ?_
    refine rz_pure (pc' := 258) d_Commands_rename_244 rfl ?_
    exact rz_ireti d_Commands_rename_258 rfl rfl (w.2 b1)
theorem d_Commands_initialise_0 : decode (rm_code mCommands_initialise) 0 = .ok (.aload_n 0, 1) := by decide +kernel
theorem d_Commands_initialise_1 : decode (rm_code mCommands_initialise) 1 = .ok (.getfield 43, 3) := by decide +kernel
theorem d_Commands_initialise_4 : decode (rm_code mCommands_initialise) 4 = .ok (.invokevirtual 132, 3) := by decide +kernel
theorem d_Commands_initialise_7 : decode (rm_code mCommands_initialise) 7 = .ok (.istore_n 1, 1) := by decide +kernel
theorem d_Commands_initialise_8 : decode (rm_code mCommands_initialise) 8 = .ok (.iload_n 1, 1) := by decide +kernel
theorem d_Commands_initialise_9 : decode (rm_code mCommands_initialise) 9 = .ok (.ifCond .eq (7), 3) := by decide +kernel
theorem d_Commands_initialise_12 : decode (rm_code mCommands_initialise) 12 = .ok (.iload_n 1, 1) := by decide +kernel
theorem d_Commands_initialise_13 : decode (rm_code mCommands_initialise) 13 = .ok (.goto (10), 3) := by decide +kernel
theorem d_Commands_initialise_16 : decode (rm_code mCommands_initialise) 16 = .ok (.aload_n 0, 1) := by decide +kernel
theorem d_Commands_initialise_17 : decode (rm_code mCommands_initialise) 17 = .ok (.getfield 53, 3) := by decide +kernel
theorem d_Commands_initialise_20 : decode (rm_code mCommands_initialise) 20 = .ok (.invokevirtual 175, 3) := by decide +kernel
theorem d_Commands_initialise_23 : decode (rm_code mCommands_initialise) 23 = .ok (.ireturn, 1) := by decide +kernel
theorem p_Commands_initialise_0 {S : rz_S} {K : Int32 → rz_S → Prop} (w : rz_ev mDisk_takeId [.ref 6] S (rz_i (fun xq1 Sq1 => ((xq1 = 0 → rz_ev mBlockMap_load [.ref 44] Sq1 (rz_i (fun xq3 Sq3 => K xq3 Sq3))) ∧ (¬ xq1 = 0 → K xq1 Sq1))))) : rz mCommands_initialise 0 [(0, .ref 108)] [] S (rz_i K) := by
  refine rz_pure (pc' := 1) d_Commands_initialise_0 rfl ?_
  refine rz_getr d_Commands_initialise_1 f_2_43 rfl rfl ?_
  refine rz_callVi (t := []) d_Commands_initialise_4 w_2_132 rfl rfl rfl w (fun xq1 Sq1 q1 => ?_)
  refine rz_pure (pc' := 8) (l' := [(1, .int xq1), (0, .ref 108)]) d_Commands_initialise_7 rfl ?_
  refine rz_pure (pc' := 9) d_Commands_initialise_8 rfl ?_
  refine rz_ifeq (tgt := 16) d_Commands_initialise_9 rfl (fun b2 => ?_) (fun b2 => ?_)
  · skip
    refine rz_pure (pc' := 17) d_Commands_initialise_16 rfl ?_
    refine rz_getr d_Commands_initialise_17 f_2_53 rfl rfl ?_
    refine rz_callVi (t := []) d_Commands_initialise_20 w_2_175 rfl rfl rfl (q1.1 b2) (fun xq3 Sq3 q3 => ?_)
    exact rz_ireti d_Commands_initialise_23 rfl rfl q3
  · skip
    refine rz_pure (pc' := 13) d_Commands_initialise_12 rfl ?_
    refine rz_pure (pc' := 23) d_Commands_initialise_13 rfl ?_
    exact rz_ireti d_Commands_initialise_23 rfl rfl (q1.2 b2)
theorem d_Commands_unknown_0 : decode (rm_code mCommands_unknown) 0 = .ok (.aload_n 0, 1) := by decide +kernel
theorem d_Commands_unknown_1 : decode (rm_code mCommands_unknown) 1 = .ok (.getfield 38, 3) := by decide +kernel
theorem d_Commands_unknown_4 : decode (rm_code mCommands_unknown) 4 = .ok (.bipush (31), 2) := by decide +kernel
theorem d_Commands_unknown_6 : decode (rm_code mCommands_unknown) 6 = .ok (.iconst 0, 1) := by decide +kernel
theorem d_Commands_unknown_7 : decode (rm_code mCommands_unknown) 7 = .ok (.iconst 0, 1) := by decide +kernel
theorem d_Commands_unknown_8 : decode (rm_code mCommands_unknown) 8 = .ok (.invokevirtual 73, 3) := by decide +kernel
theorem d_Commands_unknown_11 : decode (rm_code mCommands_unknown) 11 = .ok (.ireturn, 1) := by decide +kernel
theorem p_Commands_unknown_0 {S : rz_S} {K : Int32 → rz_S → Prop} (w : rz_ev mStatus_set [.ref 3, .int 31, .int 0, .int 0] S (rz_i (fun xq1 Sq1 => K xq1 Sq1))) : rz mCommands_unknown 0 [(0, .ref 108)] [] S (rz_i K) := by
  refine rz_pure (pc' := 1) d_Commands_unknown_0 rfl ?_
  refine rz_getr d_Commands_unknown_1 f_2_38 rfl rfl ?_
  refine rz_bipush (v := 31) d_Commands_unknown_4 (by decide) ?_
  refine rz_iconst (v := 0) d_Commands_unknown_6 (by decide) ?_
  refine rz_iconst (v := 0) d_Commands_unknown_7 (by decide) ?_
  refine rz_callVi (t := [.int 0, .int 0, .int 31]) d_Commands_unknown_8 w_2_73 rfl rfl rfl w (fun xq1 Sq1 q1 => ?_)
  exact rz_ireti d_Commands_unknown_11 rfl rfl q1
theorem d_Commands_validate_0 : decode (rm_code mCommands_validate) 0 = .ok (.aload_n 0, 1) := by decide +kernel
theorem d_Commands_validate_1 : decode (rm_code mCommands_validate) 1 = .ok (.getfield 53, 3) := by decide +kernel
theorem d_Commands_validate_4 : decode (rm_code mCommands_validate) 4 = .ok (.invokevirtual 175, 3) := by decide +kernel
theorem d_Commands_validate_7 : decode (rm_code mCommands_validate) 7 = .ok (.istore_n 1, 1) := by decide +kernel
theorem d_Commands_validate_8 : decode (rm_code mCommands_validate) 8 = .ok (.iload_n 1, 1) := by decide +kernel
theorem d_Commands_validate_9 : decode (rm_code mCommands_validate) 9 = .ok (.ifCond .ne (25), 3) := by decide +kernel
theorem d_Commands_validate_12 : decode (rm_code mCommands_validate) 12 = .ok (.aload_n 0, 1) := by decide +kernel
theorem d_Commands_validate_13 : decode (rm_code mCommands_validate) 13 = .ok (.getfield 53, 3) := by decide +kernel
theorem d_Commands_validate_16 : decode (rm_code mCommands_validate) 16 = .ok (.invokevirtual 178, 3) := by decide +kernel
theorem d_Commands_validate_19 : decode (rm_code mCommands_validate) 19 = .ok (.aload_n 0, 1) := by decide +kernel
theorem d_Commands_validate_20 : decode (rm_code mCommands_validate) 20 = .ok (.getfield 53, 3) := by decide +kernel
theorem d_Commands_validate_23 : decode (rm_code mCommands_validate) 23 = .ok (.bipush (7), 2) := by decide +kernel
theorem d_Commands_validate_25 : decode (rm_code mCommands_validate) 25 = .ok (.iconst 0, 1) := by decide +kernel
theorem d_Commands_validate_26 : decode (rm_code mCommands_validate) 26 = .ok (.invokevirtual 181, 3) := by decide +kernel
theorem d_Commands_validate_29 : decode (rm_code mCommands_validate) 29 = .ok (.aload_n 0, 1) := by decide +kernel
theorem d_Commands_validate_30 : decode (rm_code mCommands_validate) 30 = .ok (.invokevirtual 184, 3) := by decide +kernel
theorem d_Commands_validate_33 : decode (rm_code mCommands_validate) 33 = .ok (.istore_n 1, 1) := by decide +kernel
theorem d_Commands_validate_34 : decode (rm_code mCommands_validate) 34 = .ok (.aload_n 0, 1) := by decide +kernel
theorem d_Commands_validate_35 : decode (rm_code mCommands_validate) 35 = .ok (.getfield 58, 3) := by decide +kernel
theorem d_Commands_validate_38 : decode (rm_code mCommands_validate) 38 = .ok (.invokevirtual 158, 3) := by decide +kernel
theorem d_Commands_validate_41 : decode (rm_code mCommands_validate) 41 = .ok (.iconst 0, 1) := by decide +kernel
theorem d_Commands_validate_42 : decode (rm_code mCommands_validate) 42 = .ok (.istore_n 2, 1) := by decide +kernel
theorem d_Commands_validate_43 : decode (rm_code mCommands_validate) 43 = .ok (.iload_n 2, 1) := by decide +kernel
theorem d_Commands_validate_44 : decode (rm_code mCommands_validate) 44 = .ok (.bipush (64), 2) := by decide +kernel
theorem d_Commands_validate_46 : decode (rm_code mCommands_validate) 46 = .ok (.if_icmp .ge (92), 3) := by decide +kernel
theorem d_Commands_validate_49 : decode (rm_code mCommands_validate) 49 = .ok (.iload_n 1, 1) := by decide +kernel
theorem d_Commands_validate_50 : decode (rm_code mCommands_validate) 50 = .ok (.ifCond .ne (88), 3) := by decide +kernel
theorem d_Commands_validate_53 : decode (rm_code mCommands_validate) 53 = .ok (.aload_n 0, 1) := by decide +kernel
theorem d_Commands_validate_54 : decode (rm_code mCommands_validate) 54 = .ok (.getfield 58, 3) := by decide +kernel
theorem d_Commands_validate_57 : decode (rm_code mCommands_validate) 57 = .ok (.iconst 0, 1) := by decide +kernel
theorem d_Commands_validate_58 : decode (rm_code mCommands_validate) 58 = .ok (.aload_n 0, 1) := by decide +kernel
theorem d_Commands_validate_59 : decode (rm_code mCommands_validate) 59 = .ok (.getfield 21, 3) := by decide +kernel
theorem d_Commands_validate_62 : decode (rm_code mCommands_validate) 62 = .ok (.invokevirtual 161, 3) := by decide +kernel
theorem d_Commands_validate_65 : decode (rm_code mCommands_validate) 65 = .ok (.istore_n 1, 1) := by decide +kernel
theorem d_Commands_validate_66 : decode (rm_code mCommands_validate) 66 = .ok (.iload_n 1, 1) := by decide +kernel
theorem d_Commands_validate_67 : decode (rm_code mCommands_validate) 67 = .ok (.ifCond .ne (21), 3) := by decide +kernel
theorem d_Commands_validate_70 : decode (rm_code mCommands_validate) 70 = .ok (.aload_n 0, 1) := by decide +kernel
theorem d_Commands_validate_71 : decode (rm_code mCommands_validate) 71 = .ok (.getfield 58, 3) := by decide +kernel
theorem d_Commands_validate_74 : decode (rm_code mCommands_validate) 74 = .ok (.getfield 164, 3) := by decide +kernel
theorem d_Commands_validate_77 : decode (rm_code mCommands_validate) 77 = .ok (.ifCond .ne (11), 3) := by decide +kernel
theorem d_Commands_validate_80 : decode (rm_code mCommands_validate) 80 = .ok (.aload_n 0, 1) := by decide +kernel
theorem d_Commands_validate_81 : decode (rm_code mCommands_validate) 81 = .ok (.getfield 53, 3) := by decide +kernel
theorem d_Commands_validate_84 : decode (rm_code mCommands_validate) 84 = .ok (.invokevirtual 140, 3) := by decide +kernel
theorem d_Commands_validate_87 : decode (rm_code mCommands_validate) 87 = .ok (.ireturn, 1) := by decide +kernel
theorem d_Commands_validate_88 : decode (rm_code mCommands_validate) 88 = .ok (.iload_n 1, 1) := by decide +kernel
theorem d_Commands_validate_89 : decode (rm_code mCommands_validate) 89 = .ok (.ifCond .ne (43), 3) := by decide +kernel
theorem d_Commands_validate_92 : decode (rm_code mCommands_validate) 92 = .ok (.aload_n 0, 1) := by decide +kernel
theorem d_Commands_validate_93 : decode (rm_code mCommands_validate) 93 = .ok (.getfield 58, 3) := by decide +kernel
theorem d_Commands_validate_96 : decode (rm_code mCommands_validate) 96 = .ok (.invokevirtual 187, 3) := by decide +kernel
theorem d_Commands_validate_99 : decode (rm_code mCommands_validate) 99 = .ok (.ifCond .eq (24), 3) := by decide +kernel
theorem d_Commands_validate_102 : decode (rm_code mCommands_validate) 102 = .ok (.aload_n 0, 1) := by decide +kernel
theorem d_Commands_validate_103 : decode (rm_code mCommands_validate) 103 = .ok (.aload_n 0, 1) := by decide +kernel
theorem d_Commands_validate_104 : decode (rm_code mCommands_validate) 104 = .ok (.getfield 58, 3) := by decide +kernel
theorem d_Commands_validate_107 : decode (rm_code mCommands_validate) 107 = .ok (.invokevirtual 190, 3) := by decide +kernel
theorem d_Commands_validate_110 : decode (rm_code mCommands_validate) 110 = .ok (.aload_n 0, 1) := by decide +kernel
theorem d_Commands_validate_111 : decode (rm_code mCommands_validate) 111 = .ok (.getfield 58, 3) := by decide +kernel
theorem d_Commands_validate_114 : decode (rm_code mCommands_validate) 114 = .ok (.invokevirtual 193, 3) := by decide +kernel
theorem d_Commands_validate_117 : decode (rm_code mCommands_validate) 117 = .ok (.invokevirtual 196, 3) := by decide +kernel
theorem d_Commands_validate_120 : decode (rm_code mCommands_validate) 120 = .ok (.goto (11), 3) := by decide +kernel
theorem d_Commands_validate_123 : decode (rm_code mCommands_validate) 123 = .ok (.aload_n 0, 1) := by decide +kernel
theorem d_Commands_validate_124 : decode (rm_code mCommands_validate) 124 = .ok (.getfield 58, 3) := by decide +kernel
theorem d_Commands_validate_127 : decode (rm_code mCommands_validate) 127 = .ok (.iconst 0, 1) := by decide +kernel
theorem d_Commands_validate_128 : decode (rm_code mCommands_validate) 128 = .ok (.invokevirtual 199, 3) := by decide +kernel
theorem d_Commands_validate_131 : decode (rm_code mCommands_validate) 131 = .ok (.istore_n 1, 1) := by decide +kernel
theorem d_Commands_validate_132 : decode (rm_code mCommands_validate) 132 = .ok (.iinc 2 (1), 3) := by decide +kernel
theorem d_Commands_validate_135 : decode (rm_code mCommands_validate) 135 = .ok (.goto (-92), 3) := by decide +kernel
theorem d_Commands_validate_138 : decode (rm_code mCommands_validate) 138 = .ok (.iload_n 1, 1) := by decide +kernel
theorem d_Commands_validate_139 : decode (rm_code mCommands_validate) 139 = .ok (.ireturn, 1) := by decide +kernel
theorem p_Commands_validate_0 {S : rz_S} {K : Int32 → rz_S → Prop} (w : rz_ev mBlockMap_load [.ref 44] S (rz_i (fun xq1 Sq1 => ((xq1 = 0 → rz_ev mBlockMap_freeAll [.ref 44] Sq1 (rz_v (fun Sq3 => rz_ev mBlockMap_takeBlock [.ref 44, .int 7, .int 0] Sq3 (rz_v (fun Sq4 => rz_ev mCommands_takeDirectory [.ref 108] Sq4 (rz_i (fun xq5 Sq5 => rz mCommands_validate 34 [(0, .ref 108), (1, .int xq5)] [] Sq5 (rz_i K)))))))) ∧ (¬ xq1 = 0 → rz mCommands_validate 34 [(0, .ref 108), (1, .int xq1)] [] Sq1 (rz_i K)))))) : rz mCommands_validate 0 [(0, .ref 108)] [] S (rz_i K) := by
  refine rz_pure (pc' := 1) d_Commands_validate_0 rfl ?_
  refine rz_getr d_Commands_validate_1 f_2_53 rfl rfl ?_
  refine rz_callVi (t := []) d_Commands_validate_4 w_2_175 rfl rfl rfl w (fun xq1 Sq1 q1 => ?_)
  refine rz_pure (pc' := 8) (l' := [(1, .int xq1), (0, .ref 108)]) d_Commands_validate_7 rfl ?_
  refine rz_pure (pc' := 9) d_Commands_validate_8 rfl ?_
  refine rz_ifne (tgt := 34) d_Commands_validate_9 rfl (fun b2 => ?_) (fun b2 => ?_)
  · skip
    exact rz_pick (ks := [0, 1]) (l := [(0, .ref 108), (1, .int xq1)]) rfl rfl (by decide) rfl (q1.2 b2)
  · skip
    refine rz_pure (pc' := 13) d_Commands_validate_12 rfl ?_
    refine rz_getr d_Commands_validate_13 f_2_53 rfl rfl ?_
    refine rz_callVv (t := []) d_Commands_validate_16 w_2_178 rfl rfl rfl (q1.1 b2) (fun Sq3 q3 => ?_)
    refine rz_pure (pc' := 20) d_Commands_validate_19 rfl ?_
    refine rz_getr d_Commands_validate_20 f_2_53 rfl rfl ?_
    refine rz_bipush (v := 7) d_Commands_validate_23 (by decide) ?_
    refine rz_iconst (v := 0) d_Commands_validate_25 (by decide) ?_
    refine rz_callVv (t := [.int 0, .int 7]) d_Commands_validate_26 w_2_181 rfl rfl rfl q3 (fun Sq4 q4 => ?_)
    refine rz_pure (pc' := 30) d_Commands_validate_29 rfl ?_
    refine rz_callVi (t := []) d_Commands_validate_30 w_2_184 rfl rfl rfl q4 (fun xq5 Sq5 q5 => ?_)
    refine rz_pure (pc' := 34) (l' := [(1, .int xq5), (0, .ref 108)]) d_Commands_validate_33 rfl ?_
    exact rz_pick (ks := [0, 1]) (l := [(0, .ref 108), (1, .int xq5)]) rfl rfl (by decide) rfl q5
theorem p_Commands_validate_34 {S : rz_S} {K : Int32 → rz_S → Prop} {a1 : Int32} (w : rz_ev mDirectory_rewind [.ref 46] S (rz_v (fun Sq1 => rz mCommands_validate 43 [(0, .ref 108), (1, .int a1), (2, .int 0)] [] Sq1 (rz_i K)))) : rz mCommands_validate 34 [(0, .ref 108), (1, .int a1)] [] S (rz_i K) := by
  refine rz_pure (pc' := 35) d_Commands_validate_34 rfl ?_
  refine rz_getr d_Commands_validate_35 f_2_58 rfl rfl ?_
  refine rz_callVv (t := []) d_Commands_validate_38 w_2_158 rfl rfl rfl w (fun Sq1 q1 => ?_)
  refine rz_iconst (v := 0) d_Commands_validate_41 (by decide) ?_
  refine rz_pure (pc' := 43) (l' := [(2, .int 0), (0, .ref 108), (1, .int a1)]) d_Commands_validate_42 rfl ?_
  exact rz_pick (ks := [0, 1, 2]) (l := [(0, .ref 108), (1, .int a1), (2, .int 0)]) rfl rfl (by decide) rfl q1
theorem p_Commands_validate_43 {S : rz_S} {K : Int32 → rz_S → Prop} {a1 : Int32} {a2 : Int32} (w : ((64 ≤ a2 → K a1 S) ∧ (¬ 64 ≤ a2 → ((a1 = 0 → rz_ev mDirectory_find [.ref 46, .int 0, .ref 113] S (rz_i (fun xq3 Sq3 => ((xq3 = 0 → ((Sq3.2 46 5 = 0 → rz_ev mBlockMap_store [.ref 44] Sq3 (rz_i (fun xq6 Sq6 => K xq6 Sq6))) ∧ (¬ Sq3.2 46 5 = 0 → rz mCommands_validate 88 [(0, .ref 108), (1, .int xq3), (2, .int a2)] [] Sq3 (rz_i K)))) ∧ (¬ xq3 = 0 → rz mCommands_validate 88 [(0, .ref 108), (1, .int xq3), (2, .int a2)] [] Sq3 (rz_i K)))))) ∧ (¬ a1 = 0 → K a1 S))))) : rz mCommands_validate 43 [(0, .ref 108), (1, .int a1), (2, .int a2)] [] S (rz_i K) := by
  refine rz_pure (pc' := 44) d_Commands_validate_43 rfl ?_
  refine rz_bipush (v := 64) d_Commands_validate_44 (by decide) ?_
  refine rz_icmpge (tgt := 138) d_Commands_validate_46 rfl (fun b1 => ?_) (fun b1 => ?_)
  · skip
    refine rz_pure (pc' := 139) d_Commands_validate_138 rfl ?_
    exact rz_ireti d_Commands_validate_139 rfl rfl (w.1 b1)
  · skip
    refine rz_pure (pc' := 50) d_Commands_validate_49 rfl ?_
    refine rz_ifne (tgt := 138) d_Commands_validate_50 rfl (fun b2 => ?_) (fun b2 => ?_)
    · skip
      refine rz_pure (pc' := 139) d_Commands_validate_138 rfl ?_
      exact rz_ireti d_Commands_validate_139 rfl rfl ((w.2 b1).2 b2)
    · skip
      refine rz_pure (pc' := 54) d_Commands_validate_53 rfl ?_
      refine rz_getr d_Commands_validate_54 f_2_58 rfl rfl ?_
      refine rz_iconst (v := 0) d_Commands_validate_57 (by decide) ?_
      refine rz_pure (pc' := 59) d_Commands_validate_58 rfl ?_
      refine rz_getr d_Commands_validate_59 f_2_21 rfl rfl ?_
      refine rz_callVi (t := [.ref 113, .int 0]) d_Commands_validate_62 w_2_161 rfl rfl rfl ((w.2 b1).1 b2) (fun xq3 Sq3 q3 => ?_)
      refine rz_pure (pc' := 66) (l' := [(1, .int xq3), (0, .ref 108), (2, .int a2)]) d_Commands_validate_65 rfl ?_
      refine rz_pure (pc' := 67) d_Commands_validate_66 rfl ?_
      refine rz_ifne (tgt := 88) d_Commands_validate_67 rfl (fun b4 => ?_) (fun b4 => ?_)
      · skip
        exact rz_pick (ks := [0, 1, 2]) (l := [(0, .ref 108), (1, .int xq3), (2, .int a2)]) rfl rfl (by decide) rfl (q3.2 b4)
      · skip
        refine rz_pure (pc' := 71) d_Commands_validate_70 rfl ?_
        refine rz_getr d_Commands_validate_71 f_2_58 rfl rfl ?_
        refine rz_getiv (v := Sq3.2 46 5) d_Commands_validate_74 f_2_164 rfl rfl rfl ?_
        refine rz_ifne (tgt := 88) d_Commands_validate_77 rfl (fun b5 => ?_) (fun b5 => ?_)
        · skip
          exact rz_pick (ks := [0, 1, 2]) (l := [(0, .ref 108), (1, .int xq3), (2, .int a2)]) rfl rfl (by decide) rfl ((q3.1 b4).2 b5)
        · skip
          refine rz_pure (pc' := 81) d_Commands_validate_80 rfl ?_
          refine rz_getr d_Commands_validate_81 f_2_53 rfl rfl ?_
          refine rz_callVi (t := []) d_Commands_validate_84 w_2_140 rfl rfl rfl ((q3.1 b4).1 b5) (fun xq6 Sq6 q6 => ?_)
          exact rz_ireti d_Commands_validate_87 rfl rfl q6
theorem p_Commands_validate_88 {S : rz_S} {K : Int32 → rz_S → Prop} {a1 : Int32} {a2 : Int32} (w : ((a1 = 0 → rz_ev mDirectory_isClosed [.ref 46] S (rz_i (fun xq2 Sq2 => ((xq2 = 0 → rz_ev mDirectory_changeType [.ref 46, .int 0] Sq2 (rz_i (fun xq4 Sq4 => rz mCommands_validate 43 [(0, .ref 108), (1, .int xq4), (2, .int (a2 + 1))] [] Sq4 (rz_i K)))) ∧ (¬ xq2 = 0 → rz_ev mDirectory_firstTrack [.ref 46] Sq2 (rz_i (fun xq5 Sq5 => rz_ev mDirectory_firstSector [.ref 46] Sq5 (rz_i (fun xq6 Sq6 => rz_ev mCommands_takeChain [.ref 108, .int xq5, .int xq6] Sq6 (rz_i (fun xq7 Sq7 => rz mCommands_validate 43 [(0, .ref 108), (1, .int xq7), (2, .int (a2 + 1))] [] Sq7 (rz_i K)))))))))))) ∧ (¬ a1 = 0 → rz mCommands_validate 43 [(0, .ref 108), (1, .int a1), (2, .int (a2 + 1))] [] S (rz_i K)))) : rz mCommands_validate 88 [(0, .ref 108), (1, .int a1), (2, .int a2)] [] S (rz_i K) := by
  refine rz_pure (pc' := 89) d_Commands_validate_88 rfl ?_
  refine rz_ifne (tgt := 132) d_Commands_validate_89 rfl (fun b1 => ?_) (fun b1 => ?_)
  · skip
    refine rz_pure (pc' := 135) (l' := [(2, .int (a2 + 1)), (0, .ref 108), (1, .int a1)]) d_Commands_validate_132 rfl ?_
    refine rz_pure (pc' := 43) d_Commands_validate_135 rfl ?_
    exact rz_pick (ks := [0, 1, 2]) (l := [(0, .ref 108), (1, .int a1), (2, .int (a2 + 1))]) rfl rfl (by decide) rfl (w.2 b1)
  · skip
    refine rz_pure (pc' := 93) d_Commands_validate_92 rfl ?_
    refine rz_getr d_Commands_validate_93 f_2_58 rfl rfl ?_
    refine rz_callVi (t := []) d_Commands_validate_96 w_2_187 rfl rfl rfl (w.1 b1) (fun xq2 Sq2 q2 => ?_)
    refine rz_ifeq (tgt := 123) d_Commands_validate_99 rfl (fun b3 => ?_) (fun b3 => ?_)
    · skip
      refine rz_pure (pc' := 124) d_Commands_validate_123 rfl ?_
      refine rz_getr d_Commands_validate_124 f_2_58 rfl rfl ?_
      refine rz_iconst (v := 0) d_Commands_validate_127 (by decide) ?_
      refine rz_callVi (t := [.int 0]) d_Commands_validate_128 w_2_199 rfl rfl rfl (q2.1 b3) (fun xq4 Sq4 q4 => ?_)
      refine rz_pure (pc' := 132) (l' := [(1, .int xq4), (0, .ref 108), (2, .int a2)]) d_Commands_validate_131 rfl ?_
      refine rz_pure (pc' := 135) (l' := [(2, .int (a2 + 1)), (1, .int xq4), (0, .ref 108)]) d_Commands_validate_132 rfl ?_
      refine rz_pure (pc' := 43) d_Commands_validate_135 rfl ?_
      exact rz_pick (ks := [0, 1, 2]) (l := [(0, .ref 108), (1, .int xq4), (2, .int (a2 + 1))]) rfl rfl (by decide) rfl q4
    · skip
      refine rz_pure (pc' := 103) d_Commands_validate_102 rfl ?_
      refine rz_pure (pc' := 104) d_Commands_validate_103 rfl ?_
      refine rz_getr d_Commands_validate_104 f_2_58 rfl rfl ?_
      refine rz_callVi (t := []) d_Commands_validate_107 w_2_190 rfl rfl rfl (q2.2 b3) (fun xq5 Sq5 q5 => ?_)
      refine rz_pure (pc' := 111) d_Commands_validate_110 rfl ?_
      refine rz_getr d_Commands_validate_111 f_2_58 rfl rfl ?_
      refine rz_callVi (t := []) d_Commands_validate_114 w_2_193 rfl rfl rfl q5 (fun xq6 Sq6 q6 => ?_)
      refine rz_callVi (t := [.int xq6, .int xq5]) d_Commands_validate_117 w_2_196 rfl rfl rfl q6 (fun xq7 Sq7 q7 => ?_)
      refine rz_pure (pc' := 131) d_Commands_validate_120 rfl ?_
      refine rz_pure (pc' := 132) (l' := [(1, .int xq7), (0, .ref 108), (2, .int a2)]) d_Commands_validate_131 rfl ?_
      refine rz_pure (pc' := 135) (l' := [(2, .int (a2 + 1)), (1, .int xq7), (0, .ref 108)]) d_Commands_validate_132 rfl ?_
      refine rz_pure (pc' := 43) d_Commands_validate_135 rfl ?_
      exact rz_pick (ks := [0, 1, 2]) (l := [(0, .ref 108), (1, .int xq7), (2, .int (a2 + 1))]) rfl rfl (by decide) rfl q7
theorem d_Commands_takeDirectory_0 : decode (rm_code mCommands_takeDirectory) 0 = .ok (.bipush (7), 2) := by decide +kernel
theorem d_Commands_takeDirectory_2 : decode (rm_code mCommands_takeDirectory) 2 = .ok (.istore_n 1, 1) := by decide +kernel
theorem d_Commands_takeDirectory_3 : decode (rm_code mCommands_takeDirectory) 3 = .ok (.iconst 1, 1) := by decide +kernel
theorem d_Commands_takeDirectory_4 : decode (rm_code mCommands_takeDirectory) 4 = .ok (.istore_n 2, 1) := by decide +kernel
theorem d_Commands_takeDirectory_5 : decode (rm_code mCommands_takeDirectory) 5 = .ok (.iconst 0, 1) := by decide +kernel
theorem d_Commands_takeDirectory_6 : decode (rm_code mCommands_takeDirectory) 6 = .ok (.istore_n 3, 1) := by decide +kernel
theorem d_Commands_takeDirectory_7 : decode (rm_code mCommands_takeDirectory) 7 = .ok (.iload_n 3, 1) := by decide +kernel
theorem d_Commands_takeDirectory_8 : decode (rm_code mCommands_takeDirectory) 8 = .ok (.bipush (6), 2) := by decide +kernel
theorem d_Commands_takeDirectory_10 : decode (rm_code mCommands_takeDirectory) 10 = .ok (.if_icmp .ge (96), 3) := by decide +kernel
theorem d_Commands_takeDirectory_13 : decode (rm_code mCommands_takeDirectory) 13 = .ok (.iload_n 1, 1) := by decide +kernel
theorem d_Commands_takeDirectory_14 : decode (rm_code mCommands_takeDirectory) 14 = .ok (.iload_n 2, 1) := by decide +kernel
theorem d_Commands_takeDirectory_15 : decode (rm_code mCommands_takeDirectory) 15 = .ok (.invokestatic 202, 3) := by decide +kernel
theorem d_Commands_takeDirectory_18 : decode (rm_code mCommands_takeDirectory) 18 = .ok (.ifCond .ne (15), 3) := by decide +kernel
theorem d_Commands_takeDirectory_21 : decode (rm_code mCommands_takeDirectory) 21 = .ok (.aload_n 0, 1) := by decide +kernel
theorem d_Commands_takeDirectory_22 : decode (rm_code mCommands_takeDirectory) 22 = .ok (.getfield 38, 3) := by decide +kernel
theorem d_Commands_takeDirectory_25 : decode (rm_code mCommands_takeDirectory) 25 = .ok (.bipush (71), 2) := by decide +kernel
theorem d_Commands_takeDirectory_27 : decode (rm_code mCommands_takeDirectory) 27 = .ok (.iload_n 1, 1) := by decide +kernel
theorem d_Commands_takeDirectory_28 : decode (rm_code mCommands_takeDirectory) 28 = .ok (.iload_n 2, 1) := by decide +kernel
theorem d_Commands_takeDirectory_29 : decode (rm_code mCommands_takeDirectory) 29 = .ok (.invokevirtual 73, 3) := by decide +kernel
theorem d_Commands_takeDirectory_32 : decode (rm_code mCommands_takeDirectory) 32 = .ok (.ireturn, 1) := by decide +kernel
theorem d_Commands_takeDirectory_33 : decode (rm_code mCommands_takeDirectory) 33 = .ok (.aload_n 0, 1) := by decide +kernel
theorem d_Commands_takeDirectory_34 : decode (rm_code mCommands_takeDirectory) 34 = .ok (.getfield 53, 3) := by decide +kernel
theorem d_Commands_takeDirectory_37 : decode (rm_code mCommands_takeDirectory) 37 = .ok (.iload_n 1, 1) := by decide +kernel
theorem d_Commands_takeDirectory_38 : decode (rm_code mCommands_takeDirectory) 38 = .ok (.iload_n 2, 1) := by decide +kernel
theorem d_Commands_takeDirectory_39 : decode (rm_code mCommands_takeDirectory) 39 = .ok (.invokevirtual 181, 3) := by decide +kernel
theorem d_Commands_takeDirectory_42 : decode (rm_code mCommands_takeDirectory) 42 = .ok (.aload_n 0, 1) := by decide +kernel
theorem d_Commands_takeDirectory_43 : decode (rm_code mCommands_takeDirectory) 43 = .ok (.getfield 43, 3) := by decide +kernel
theorem d_Commands_takeDirectory_46 : decode (rm_code mCommands_takeDirectory) 46 = .ok (.iload_n 1, 1) := by decide +kernel
theorem d_Commands_takeDirectory_47 : decode (rm_code mCommands_takeDirectory) 47 = .ok (.iload_n 2, 1) := by decide +kernel
theorem d_Commands_takeDirectory_48 : decode (rm_code mCommands_takeDirectory) 48 = .ok (.aload_n 0, 1) := by decide +kernel
theorem d_Commands_takeDirectory_49 : decode (rm_code mCommands_takeDirectory) 49 = .ok (.getfield 24, 3) := by decide +kernel
theorem d_Commands_takeDirectory_52 : decode (rm_code mCommands_takeDirectory) 52 = .ok (.getfield 206, 3) := by decide +kernel
theorem d_Commands_takeDirectory_55 : decode (rm_code mCommands_takeDirectory) 55 = .ok (.invokevirtual 210, 3) := by decide +kernel
theorem d_Commands_takeDirectory_58 : decode (rm_code mCommands_takeDirectory) 58 = .ok (.istore 4, 2) := by decide +kernel
theorem d_Commands_takeDirectory_60 : decode (rm_code mCommands_takeDirectory) 60 = .ok (.iload 4, 2) := by decide +kernel
theorem d_Commands_takeDirectory_62 : decode (rm_code mCommands_takeDirectory) 62 = .ok (.ifCond .ne (15), 3) := by decide +kernel
theorem d_Commands_takeDirectory_65 : decode (rm_code mCommands_takeDirectory) 65 = .ok (.aload_n 0, 1) := by decide +kernel
theorem d_Commands_takeDirectory_66 : decode (rm_code mCommands_takeDirectory) 66 = .ok (.getfield 24, 3) := by decide +kernel
theorem d_Commands_takeDirectory_69 : decode (rm_code mCommands_takeDirectory) 69 = .ok (.getfield 206, 3) := by decide +kernel
theorem d_Commands_takeDirectory_72 : decode (rm_code mCommands_takeDirectory) 72 = .ok (.iconst 0, 1) := by decide +kernel
theorem d_Commands_takeDirectory_73 : decode (rm_code mCommands_takeDirectory) 73 = .ok (.iaload, 1) := by decide +kernel
theorem d_Commands_takeDirectory_74 : decode (rm_code mCommands_takeDirectory) 74 = .ok (.ifCond .ne (6), 3) := by decide +kernel
theorem d_Commands_takeDirectory_77 : decode (rm_code mCommands_takeDirectory) 77 = .ok (.iload 4, 2) := by decide +kernel
theorem d_Commands_takeDirectory_79 : decode (rm_code mCommands_takeDirectory) 79 = .ok (.ireturn, 1) := by decide +kernel
theorem d_Commands_takeDirectory_80 : decode (rm_code mCommands_takeDirectory) 80 = .ok (.aload_n 0, 1) := by decide +kernel
theorem d_Commands_takeDirectory_81 : decode (rm_code mCommands_takeDirectory) 81 = .ok (.getfield 24, 3) := by decide +kernel
theorem d_Commands_takeDirectory_84 : decode (rm_code mCommands_takeDirectory) 84 = .ok (.getfield 206, 3) := by decide +kernel
theorem d_Commands_takeDirectory_87 : decode (rm_code mCommands_takeDirectory) 87 = .ok (.iconst 0, 1) := by decide +kernel
theorem d_Commands_takeDirectory_88 : decode (rm_code mCommands_takeDirectory) 88 = .ok (.iaload, 1) := by decide +kernel
theorem d_Commands_takeDirectory_89 : decode (rm_code mCommands_takeDirectory) 89 = .ok (.istore_n 1, 1) := by decide +kernel
theorem d_Commands_takeDirectory_90 : decode (rm_code mCommands_takeDirectory) 90 = .ok (.aload_n 0, 1) := by decide +kernel
theorem d_Commands_takeDirectory_91 : decode (rm_code mCommands_takeDirectory) 91 = .ok (.getfield 24, 3) := by decide +kernel
theorem d_Commands_takeDirectory_94 : decode (rm_code mCommands_takeDirectory) 94 = .ok (.getfield 206, 3) := by decide +kernel
theorem d_Commands_takeDirectory_97 : decode (rm_code mCommands_takeDirectory) 97 = .ok (.iconst 1, 1) := by decide +kernel
theorem d_Commands_takeDirectory_98 : decode (rm_code mCommands_takeDirectory) 98 = .ok (.iaload, 1) := by decide +kernel
theorem d_Commands_takeDirectory_99 : decode (rm_code mCommands_takeDirectory) 99 = .ok (.istore_n 2, 1) := by decide +kernel
theorem d_Commands_takeDirectory_100 : decode (rm_code mCommands_takeDirectory) 100 = .ok (.iinc 3 (1), 3) := by decide +kernel
theorem d_Commands_takeDirectory_103 : decode (rm_code mCommands_takeDirectory) 103 = .ok (.goto (-96), 3) := by decide +kernel
theorem d_Commands_takeDirectory_106 : decode (rm_code mCommands_takeDirectory) 106 = .ok (.iconst 0, 1) := by decide +kernel
theorem d_Commands_takeDirectory_107 : decode (rm_code mCommands_takeDirectory) 107 = .ok (.ireturn, 1) := by decide +kernel
theorem p_Commands_takeDirectory_0 {S : rz_S} {K : Int32 → rz_S → Prop} (w : rz mCommands_takeDirectory 7 [(0, .ref 108), (1, .int 7), (2, .int 1), (3, .int 0)] [] S (rz_i K)) : rz mCommands_takeDirectory 0 [(0, .ref 108)] [] S (rz_i K) := by
  refine rz_bipush (v := 7) d_Commands_takeDirectory_0 (by decide) ?_
  refine rz_pure (pc' := 3) (l' := [(1, .int 7), (0, .ref 108)]) d_Commands_takeDirectory_2 rfl ?_
  refine rz_iconst (v := 1) d_Commands_takeDirectory_3 (by decide) ?_
  refine rz_pure (pc' := 5) (l' := [(2, .int 1), (1, .int 7), (0, .ref 108)]) d_Commands_takeDirectory_4 rfl ?_
  refine rz_iconst (v := 0) d_Commands_takeDirectory_5 (by decide) ?_
  refine rz_pure (pc' := 7) (l' := [(3, .int 0), (2, .int 1), (1, .int 7), (0, .ref 108)]) d_Commands_takeDirectory_6 rfl ?_
  exact rz_pick (ks := [0, 1, 2, 3]) (l := [(0, .ref 108), (1, .int 7), (2, .int 1), (3, .int 0)]) rfl rfl (by decide) rfl w
theorem p_Commands_takeDirectory_7 {S : rz_S} {K : Int32 → rz_S → Prop} {a1 : Int32} {a2 : Int32} {a3 : Int32} (w : ((6 ≤ a3 → K 0 S) ∧ (¬ 6 ≤ a3 → rz_ev mDisk_isLegal [.int a1, .int a2] S (rz_i (fun xq2 Sq2 => ((xq2 = 0 → rz_ev mStatus_set [.ref 3, .int 71, .int a1, .int a2] Sq2 (rz_i (fun xq8 Sq8 => K xq8 Sq8))) ∧ (¬ xq2 = 0 → rz_ev mBlockMap_takeBlock [.ref 44, .int a1, .int a2] Sq2 (rz_v (fun Sq4 => rz_ev mDisk_readBlock [.ref 6, .int a1, .int a2, .ref 40] Sq4 (rz_i (fun xq5 Sq5 => ((xq5 = 0 → ((Sq5.1 40 0 = 0 → K xq5 Sq5) ∧ (¬ Sq5.1 40 0 = 0 → rz mCommands_takeDirectory 7 [(0, .ref 108), (1, .int (Sq5.1 40 0)), (2, .int (Sq5.1 40 1)), (3, .int (a3 + 1))] [] Sq5 (rz_i K)))) ∧ (¬ xq5 = 0 → K xq5 Sq5))))))))))))) : rz mCommands_takeDirectory 7 [(0, .ref 108), (1, .int a1), (2, .int a2), (3, .int a3)] [] S (rz_i K) := by
  refine rz_pure (pc' := 8) d_Commands_takeDirectory_7 rfl ?_
  refine rz_bipush (v := 6) d_Commands_takeDirectory_8 (by decide) ?_
  refine rz_icmpge (tgt := 106) d_Commands_takeDirectory_10 rfl (fun b1 => ?_) (fun b1 => ?_)
  · skip
    refine rz_iconst (v := 0) d_Commands_takeDirectory_106 (by decide) ?_
    exact rz_ireti d_Commands_takeDirectory_107 rfl rfl (w.1 b1)
  · skip
    refine rz_pure (pc' := 14) d_Commands_takeDirectory_13 rfl ?_
    refine rz_pure (pc' := 15) d_Commands_takeDirectory_14 rfl ?_
    refine rz_callSi (t := [.int a2, .int a1]) d_Commands_takeDirectory_15 rfl w_2_202 rfl rfl (w.2 b1) (fun xq2 Sq2 q2 => ?_)
    refine rz_ifne (tgt := 33) d_Commands_takeDirectory_18 rfl (fun b3 => ?_) (fun b3 => ?_)
    · skip
      refine rz_pure (pc' := 34) d_Commands_takeDirectory_33 rfl ?_
      refine rz_getr d_Commands_takeDirectory_34 f_2_53 rfl rfl ?_
      refine rz_pure (pc' := 38) d_Commands_takeDirectory_37 rfl ?_
      refine rz_pure (pc' := 39) d_Commands_takeDirectory_38 rfl ?_
      refine rz_callVv (t := [.int a2, .int a1]) d_Commands_takeDirectory_39 w_2_181 rfl rfl rfl (q2.2 b3) (fun Sq4 q4 => ?_)
      refine rz_pure (pc' := 43) d_Commands_takeDirectory_42 rfl ?_
      refine rz_getr d_Commands_takeDirectory_43 f_2_43 rfl rfl ?_
      refine rz_pure (pc' := 47) d_Commands_takeDirectory_46 rfl ?_
      refine rz_pure (pc' := 48) d_Commands_takeDirectory_47 rfl ?_
      refine rz_pure (pc' := 49) d_Commands_takeDirectory_48 rfl ?_
      refine rz_getr d_Commands_takeDirectory_49 f_2_24 rfl rfl ?_
      refine rz_getr d_Commands_takeDirectory_52 f_2_206 rfl rfl ?_
      refine rz_callVi (t := [.ref 40, .int a2, .int a1]) d_Commands_takeDirectory_55 w_2_210 rfl rfl rfl q4 (fun xq5 Sq5 q5 => ?_)
      refine rz_pure (pc' := 60) (l' := [(4, .int xq5), (0, .ref 108), (1, .int a1), (2, .int a2), (3, .int a3)]) d_Commands_takeDirectory_58 rfl ?_
      refine rz_pure (pc' := 62) d_Commands_takeDirectory_60 rfl ?_
      refine rz_ifne (tgt := 77) d_Commands_takeDirectory_62 rfl (fun b6 => ?_) (fun b6 => ?_)
      · skip
        refine rz_pure (pc' := 79) d_Commands_takeDirectory_77 rfl ?_
        exact rz_ireti d_Commands_takeDirectory_79 rfl rfl (q5.2 b6)
      · skip
        refine rz_pure (pc' := 66) d_Commands_takeDirectory_65 rfl ?_
        refine rz_getr d_Commands_takeDirectory_66 f_2_24 rfl rfl ?_
        refine rz_getr d_Commands_takeDirectory_69 f_2_206 rfl rfl ?_
        refine rz_iconst (v := 0) d_Commands_takeDirectory_72 (by decide) ?_
        refine rz_ialdv (F := Sq5.1 40) (i := 0) d_Commands_takeDirectory_73 rfl (by decide) rfl (by decide) ?_
        refine rz_ifne (tgt := 80) d_Commands_takeDirectory_74 rfl (fun b7 => ?_) (fun b7 => ?_)
        · skip
          refine rz_pure (pc' := 81) d_Commands_takeDirectory_80 rfl ?_
          refine rz_getr d_Commands_takeDirectory_81 f_2_24 rfl rfl ?_
          refine rz_getr d_Commands_takeDirectory_84 f_2_206 rfl rfl ?_
          refine rz_iconst (v := 0) d_Commands_takeDirectory_87 (by decide) ?_
          refine rz_ialdv (F := Sq5.1 40) (i := 0) d_Commands_takeDirectory_88 rfl (by decide) rfl (by decide) ?_
          refine rz_pure (pc' := 90) (l' := [(1, .int (Sq5.1 40 0)), (4, .int xq5), (0, .ref 108), (2, .int a2), (3, .int a3)]) d_Commands_takeDirectory_89 rfl ?_
          refine rz_pure (pc' := 91) d_Commands_takeDirectory_90 rfl ?_
          refine rz_getr d_Commands_takeDirectory_91 f_2_24 rfl rfl ?_
          refine rz_getr d_Commands_takeDirectory_94 f_2_206 rfl rfl ?_
          refine rz_iconst (v := 1) d_Commands_takeDirectory_97 (by decide) ?_
          refine rz_ialdv (F := Sq5.1 40) (i := 1) d_Commands_takeDirectory_98 rfl (by decide) rfl (by decide) ?_
          refine rz_pure (pc' := 100) (l' := [(2, .int (Sq5.1 40 1)), (1, .int (Sq5.1 40 0)), (4, .int xq5), (0, .ref 108), (3, .int a3)]) d_Commands_takeDirectory_99 rfl ?_
          refine rz_pure (pc' := 103) (l' := [(3, .int (a3 + 1)), (2, .int (Sq5.1 40 1)), (1, .int (Sq5.1 40 0)), (4, .int xq5), (0, .ref 108)]) d_Commands_takeDirectory_100 rfl ?_
          refine rz_pure (pc' := 7) d_Commands_takeDirectory_103 rfl ?_
          exact rz_pick (ks := [0, 1, 2, 3]) (l := [(0, .ref 108), (1, .int (Sq5.1 40 0)), (2, .int (Sq5.1 40 1)), (3, .int (a3 + 1))]) rfl rfl (by decide) rfl ((q5.1 b6).2 b7)
        · skip
          refine rz_pure (pc' := 79) d_Commands_takeDirectory_77 rfl ?_
          exact rz_ireti d_Commands_takeDirectory_79 rfl rfl ((q5.1 b6).1 b7)
    · skip
      refine rz_pure (pc' := 22) d_Commands_takeDirectory_21 rfl ?_
      refine rz_getr d_Commands_takeDirectory_22 f_2_38 rfl rfl ?_
      refine rz_bipush (v := 71) d_Commands_takeDirectory_25 (by decide) ?_
      refine rz_pure (pc' := 28) d_Commands_takeDirectory_27 rfl ?_
      refine rz_pure (pc' := 29) d_Commands_takeDirectory_28 rfl ?_
      refine rz_callVi (t := [.int a2, .int a1, .int 71]) d_Commands_takeDirectory_29 w_2_73 rfl rfl rfl (q2.1 b3) (fun xq8 Sq8 q8 => ?_)
      exact rz_ireti d_Commands_takeDirectory_32 rfl rfl q8
theorem d_Commands_takeChain_0 : decode (rm_code mCommands_takeChain) 0 = .ok (.iload_n 1, 1) := by decide +kernel
theorem d_Commands_takeChain_1 : decode (rm_code mCommands_takeChain) 1 = .ok (.istore_n 3, 1) := by decide +kernel
theorem d_Commands_takeChain_2 : decode (rm_code mCommands_takeChain) 2 = .ok (.iload_n 2, 1) := by decide +kernel
theorem d_Commands_takeChain_3 : decode (rm_code mCommands_takeChain) 3 = .ok (.istore 4, 2) := by decide +kernel
theorem d_Commands_takeChain_5 : decode (rm_code mCommands_takeChain) 5 = .ok (.iconst 0, 1) := by decide +kernel
theorem d_Commands_takeChain_6 : decode (rm_code mCommands_takeChain) 6 = .ok (.istore 5, 2) := by decide +kernel
theorem d_Commands_takeChain_8 : decode (rm_code mCommands_takeChain) 8 = .ok (.iload 5, 2) := by decide +kernel
theorem d_Commands_takeChain_10 : decode (rm_code mCommands_takeChain) 10 = .ok (.sipush (144), 3) := by decide +kernel
theorem d_Commands_takeChain_13 : decode (rm_code mCommands_takeChain) 13 = .ok (.if_icmp .gt (105), 3) := by decide +kernel
theorem d_Commands_takeChain_16 : decode (rm_code mCommands_takeChain) 16 = .ok (.aload_n 0, 1) := by decide +kernel
theorem d_Commands_takeChain_17 : decode (rm_code mCommands_takeChain) 17 = .ok (.getfield 53, 3) := by decide +kernel
theorem d_Commands_takeChain_20 : decode (rm_code mCommands_takeChain) 20 = .ok (.iload_n 3, 1) := by decide +kernel
theorem d_Commands_takeChain_21 : decode (rm_code mCommands_takeChain) 21 = .ok (.iload 4, 2) := by decide +kernel
theorem d_Commands_takeChain_23 : decode (rm_code mCommands_takeChain) 23 = .ok (.invokevirtual 214, 3) := by decide +kernel
theorem d_Commands_takeChain_26 : decode (rm_code mCommands_takeChain) 26 = .ok (.ifCond .ne (16), 3) := by decide +kernel
theorem d_Commands_takeChain_29 : decode (rm_code mCommands_takeChain) 29 = .ok (.aload_n 0, 1) := by decide +kernel
theorem d_Commands_takeChain_30 : decode (rm_code mCommands_takeChain) 30 = .ok (.getfield 38, 3) := by decide +kernel
theorem d_Commands_takeChain_33 : decode (rm_code mCommands_takeChain) 33 = .ok (.bipush (71), 2) := by decide +kernel
theorem d_Commands_takeChain_35 : decode (rm_code mCommands_takeChain) 35 = .ok (.iload_n 3, 1) := by decide +kernel
theorem d_Commands_takeChain_36 : decode (rm_code mCommands_takeChain) 36 = .ok (.iload 4, 2) := by decide +kernel
theorem d_Commands_takeChain_38 : decode (rm_code mCommands_takeChain) 38 = .ok (.invokevirtual 73, 3) := by decide +kernel
theorem d_Commands_takeChain_41 : decode (rm_code mCommands_takeChain) 41 = .ok (.ireturn, 1) := by decide +kernel
theorem d_Commands_takeChain_42 : decode (rm_code mCommands_takeChain) 42 = .ok (.aload_n 0, 1) := by decide +kernel
theorem d_Commands_takeChain_43 : decode (rm_code mCommands_takeChain) 43 = .ok (.getfield 53, 3) := by decide +kernel
theorem d_Commands_takeChain_46 : decode (rm_code mCommands_takeChain) 46 = .ok (.iload_n 3, 1) := by decide +kernel
theorem d_Commands_takeChain_47 : decode (rm_code mCommands_takeChain) 47 = .ok (.iload 4, 2) := by decide +kernel
theorem d_Commands_takeChain_49 : decode (rm_code mCommands_takeChain) 49 = .ok (.invokevirtual 181, 3) := by decide +kernel
theorem d_Commands_takeChain_52 : decode (rm_code mCommands_takeChain) 52 = .ok (.aload_n 0, 1) := by decide +kernel
theorem d_Commands_takeChain_53 : decode (rm_code mCommands_takeChain) 53 = .ok (.getfield 43, 3) := by decide +kernel
theorem d_Commands_takeChain_56 : decode (rm_code mCommands_takeChain) 56 = .ok (.iload_n 3, 1) := by decide +kernel
theorem d_Commands_takeChain_57 : decode (rm_code mCommands_takeChain) 57 = .ok (.iload 4, 2) := by decide +kernel
theorem d_Commands_takeChain_59 : decode (rm_code mCommands_takeChain) 59 = .ok (.aload_n 0, 1) := by decide +kernel
theorem d_Commands_takeChain_60 : decode (rm_code mCommands_takeChain) 60 = .ok (.getfield 24, 3) := by decide +kernel
theorem d_Commands_takeChain_63 : decode (rm_code mCommands_takeChain) 63 = .ok (.getfield 206, 3) := by decide +kernel
theorem d_Commands_takeChain_66 : decode (rm_code mCommands_takeChain) 66 = .ok (.invokevirtual 210, 3) := by decide +kernel
theorem d_Commands_takeChain_69 : decode (rm_code mCommands_takeChain) 69 = .ok (.istore 6, 2) := by decide +kernel
theorem d_Commands_takeChain_71 : decode (rm_code mCommands_takeChain) 71 = .ok (.iload 6, 2) := by decide +kernel
theorem d_Commands_takeChain_73 : decode (rm_code mCommands_takeChain) 73 = .ok (.ifCond .ne (15), 3) := by decide +kernel
theorem d_Commands_takeChain_76 : decode (rm_code mCommands_takeChain) 76 = .ok (.aload_n 0, 1) := by decide +kernel
theorem d_Commands_takeChain_77 : decode (rm_code mCommands_takeChain) 77 = .ok (.getfield 24, 3) := by decide +kernel
theorem d_Commands_takeChain_80 : decode (rm_code mCommands_takeChain) 80 = .ok (.getfield 206, 3) := by decide +kernel
theorem d_Commands_takeChain_83 : decode (rm_code mCommands_takeChain) 83 = .ok (.iconst 0, 1) := by decide +kernel
theorem d_Commands_takeChain_84 : decode (rm_code mCommands_takeChain) 84 = .ok (.iaload, 1) := by decide +kernel
theorem d_Commands_takeChain_85 : decode (rm_code mCommands_takeChain) 85 = .ok (.ifCond .ne (6), 3) := by decide +kernel
theorem d_Commands_takeChain_88 : decode (rm_code mCommands_takeChain) 88 = .ok (.iload 6, 2) := by decide +kernel
theorem d_Commands_takeChain_90 : decode (rm_code mCommands_takeChain) 90 = .ok (.ireturn, 1) := by decide +kernel
theorem d_Commands_takeChain_91 : decode (rm_code mCommands_takeChain) 91 = .ok (.aload_n 0, 1) := by decide +kernel
theorem d_Commands_takeChain_92 : decode (rm_code mCommands_takeChain) 92 = .ok (.getfield 24, 3) := by decide +kernel
theorem d_Commands_takeChain_95 : decode (rm_code mCommands_takeChain) 95 = .ok (.getfield 206, 3) := by decide +kernel
theorem d_Commands_takeChain_98 : decode (rm_code mCommands_takeChain) 98 = .ok (.iconst 0, 1) := by decide +kernel
theorem d_Commands_takeChain_99 : decode (rm_code mCommands_takeChain) 99 = .ok (.iaload, 1) := by decide +kernel
theorem d_Commands_takeChain_100 : decode (rm_code mCommands_takeChain) 100 = .ok (.istore_n 3, 1) := by decide +kernel
theorem d_Commands_takeChain_101 : decode (rm_code mCommands_takeChain) 101 = .ok (.aload_n 0, 1) := by decide +kernel
theorem d_Commands_takeChain_102 : decode (rm_code mCommands_takeChain) 102 = .ok (.getfield 24, 3) := by decide +kernel
theorem d_Commands_takeChain_105 : decode (rm_code mCommands_takeChain) 105 = .ok (.getfield 206, 3) := by decide +kernel
theorem d_Commands_takeChain_108 : decode (rm_code mCommands_takeChain) 108 = .ok (.iconst 1, 1) := by decide +kernel
theorem d_Commands_takeChain_109 : decode (rm_code mCommands_takeChain) 109 = .ok (.iaload, 1) := by decide +kernel
theorem d_Commands_takeChain_110 : decode (rm_code mCommands_takeChain) 110 = .ok (.istore 4, 2) := by decide +kernel
theorem d_Commands_takeChain_112 : decode (rm_code mCommands_takeChain) 112 = .ok (.iinc 5 (1), 3) := by decide +kernel
theorem d_Commands_takeChain_115 : decode (rm_code mCommands_takeChain) 115 = .ok (.goto (-107), 3) := by decide +kernel
theorem d_Commands_takeChain_118 : decode (rm_code mCommands_takeChain) 118 = .ok (.aload_n 0, 1) := by decide +kernel
theorem d_Commands_takeChain_119 : decode (rm_code mCommands_takeChain) 119 = .ok (.getfield 38, 3) := by decide +kernel
theorem d_Commands_takeChain_122 : decode (rm_code mCommands_takeChain) 122 = .ok (.bipush (71), 2) := by decide +kernel
theorem d_Commands_takeChain_124 : decode (rm_code mCommands_takeChain) 124 = .ok (.iload_n 3, 1) := by decide +kernel
theorem d_Commands_takeChain_125 : decode (rm_code mCommands_takeChain) 125 = .ok (.iload 4, 2) := by decide +kernel
theorem d_Commands_takeChain_127 : decode (rm_code mCommands_takeChain) 127 = .ok (.invokevirtual 73, 3) := by decide +kernel
theorem d_Commands_takeChain_130 : decode (rm_code mCommands_takeChain) 130 = .ok (.ireturn, 1) := by decide +kernel
theorem p_Commands_takeChain_0 {S : rz_S} {K : Int32 → rz_S → Prop} {a1 : Int32} {a2 : Int32} (w : rz mCommands_takeChain 8 [(0, .ref 108), (3, .int a1), (4, .int a2), (5, .int 0)] [] S (rz_i K)) : rz mCommands_takeChain 0 [(0, .ref 108), (1, .int a1), (2, .int a2)] [] S (rz_i K) := by
  refine rz_pure (pc' := 1) d_Commands_takeChain_0 rfl ?_
  refine rz_pure (pc' := 2) (l' := [(3, .int a1), (0, .ref 108), (1, .int a1), (2, .int a2)]) d_Commands_takeChain_1 rfl ?_
  refine rz_pure (pc' := 3) d_Commands_takeChain_2 rfl ?_
  refine rz_pure (pc' := 5) (l' := [(4, .int a2), (3, .int a1), (0, .ref 108), (1, .int a1), (2, .int a2)]) d_Commands_takeChain_3 rfl ?_
  refine rz_iconst (v := 0) d_Commands_takeChain_5 (by decide) ?_
  refine rz_pure (pc' := 8) (l' := [(5, .int 0), (4, .int a2), (3, .int a1), (0, .ref 108), (1, .int a1), (2, .int a2)]) d_Commands_takeChain_6 rfl ?_
  exact rz_pick (ks := [0, 3, 4, 5]) (l := [(0, .ref 108), (3, .int a1), (4, .int a2), (5, .int 0)]) rfl rfl (by decide) rfl w
theorem p_Commands_takeChain_8 {S : rz_S} {K : Int32 → rz_S → Prop} {a3 : Int32} {a4 : Int32} {a5 : Int32} (w : ((144 < a5 → rz_ev mStatus_set [.ref 3, .int 71, .int a3, .int a4] S (rz_i (fun xq2 Sq2 => K xq2 Sq2))) ∧ (¬ 144 < a5 → rz_ev mBlockMap_isFree [.ref 44, .int a3, .int a4] S (rz_i (fun xq3 Sq3 => ((xq3 = 0 → rz_ev mStatus_set [.ref 3, .int 71, .int a3, .int a4] Sq3 (rz_i (fun xq9 Sq9 => K xq9 Sq9))) ∧ (¬ xq3 = 0 → rz_ev mBlockMap_takeBlock [.ref 44, .int a3, .int a4] Sq3 (rz_v (fun Sq5 => rz_ev mDisk_readBlock [.ref 6, .int a3, .int a4, .ref 40] Sq5 (rz_i (fun xq6 Sq6 => ((xq6 = 0 → ((Sq6.1 40 0 = 0 → K xq6 Sq6) ∧ (¬ Sq6.1 40 0 = 0 → rz mCommands_takeChain 8 [(0, .ref 108), (3, .int (Sq6.1 40 0)), (4, .int (Sq6.1 40 1)), (5, .int (a5 + 1))] [] Sq6 (rz_i K)))) ∧ (¬ xq6 = 0 → K xq6 Sq6))))))))))))) : rz mCommands_takeChain 8 [(0, .ref 108), (3, .int a3), (4, .int a4), (5, .int a5)] [] S (rz_i K) := by
  refine rz_pure (pc' := 10) d_Commands_takeChain_8 rfl ?_
  refine rz_sipush (v := 144) d_Commands_takeChain_10 (by decide) ?_
  refine rz_icmpgt (tgt := 118) d_Commands_takeChain_13 rfl (fun b1 => ?_) (fun b1 => ?_)
  · skip
    refine rz_pure (pc' := 119) d_Commands_takeChain_118 rfl ?_
    refine rz_getr d_Commands_takeChain_119 f_2_38 rfl rfl ?_
    refine rz_bipush (v := 71) d_Commands_takeChain_122 (by decide) ?_
    refine rz_pure (pc' := 125) d_Commands_takeChain_124 rfl ?_
    refine rz_pure (pc' := 127) d_Commands_takeChain_125 rfl ?_
    refine rz_callVi (t := [.int a4, .int a3, .int 71]) d_Commands_takeChain_127 w_2_73 rfl rfl rfl (w.1 b1) (fun xq2 Sq2 q2 => ?_)
    exact rz_ireti d_Commands_takeChain_130 rfl rfl q2
  · skip
    refine rz_pure (pc' := 17) d_Commands_takeChain_16 rfl ?_
    refine rz_getr d_Commands_takeChain_17 f_2_53 rfl rfl ?_
    refine rz_pure (pc' := 21) d_Commands_takeChain_20 rfl ?_
    refine rz_pure (pc' := 23) d_Commands_takeChain_21 rfl ?_
    refine rz_callVi (t := [.int a4, .int a3]) d_Commands_takeChain_23 w_2_214 rfl rfl rfl (w.2 b1) (fun xq3 Sq3 q3 => ?_)
    refine rz_ifne (tgt := 42) d_Commands_takeChain_26 rfl (fun b4 => ?_) (fun b4 => ?_)
    · skip
      refine rz_pure (pc' := 43) d_Commands_takeChain_42 rfl ?_
      refine rz_getr d_Commands_takeChain_43 f_2_53 rfl rfl ?_
      refine rz_pure (pc' := 47) d_Commands_takeChain_46 rfl ?_
      refine rz_pure (pc' := 49) d_Commands_takeChain_47 rfl ?_
      refine rz_callVv (t := [.int a4, .int a3]) d_Commands_takeChain_49 w_2_181 rfl rfl rfl (q3.2 b4) (fun Sq5 q5 => ?_)
      refine rz_pure (pc' := 53) d_Commands_takeChain_52 rfl ?_
      refine rz_getr d_Commands_takeChain_53 f_2_43 rfl rfl ?_
      refine rz_pure (pc' := 57) d_Commands_takeChain_56 rfl ?_
      refine rz_pure (pc' := 59) d_Commands_takeChain_57 rfl ?_
      refine rz_pure (pc' := 60) d_Commands_takeChain_59 rfl ?_
      refine rz_getr d_Commands_takeChain_60 f_2_24 rfl rfl ?_
      refine rz_getr d_Commands_takeChain_63 f_2_206 rfl rfl ?_
      refine rz_callVi (t := [.ref 40, .int a4, .int a3]) d_Commands_takeChain_66 w_2_210 rfl rfl rfl q5 (fun xq6 Sq6 q6 => ?_)
      refine rz_pure (pc' := 71) (l' := [(6, .int xq6), (0, .ref 108), (3, .int a3), (4, .int a4), (5, .int a5)]) d_Commands_takeChain_69 rfl ?_
      refine rz_pure (pc' := 73) d_Commands_takeChain_71 rfl ?_
      refine rz_ifne (tgt := 88) d_Commands_takeChain_73 rfl (fun b7 => ?_) (fun b7 => ?_)
      · skip
        refine rz_pure (pc' := 90) d_Commands_takeChain_88 rfl ?_
        exact rz_ireti d_Commands_takeChain_90 rfl rfl (q6.2 b7)
      · skip
        refine rz_pure (pc' := 77) d_Commands_takeChain_76 rfl ?_
        refine rz_getr d_Commands_takeChain_77 f_2_24 rfl rfl ?_
        refine rz_getr d_Commands_takeChain_80 f_2_206 rfl rfl ?_
        refine rz_iconst (v := 0) d_Commands_takeChain_83 (by decide) ?_
        refine rz_ialdv (F := Sq6.1 40) (i := 0) d_Commands_takeChain_84 rfl (by decide) rfl (by decide) ?_
        refine rz_ifne (tgt := 91) d_Commands_takeChain_85 rfl (fun b8 => ?_) (fun b8 => ?_)
        · skip
          refine rz_pure (pc' := 92) d_Commands_takeChain_91 rfl ?_
          refine rz_getr d_Commands_takeChain_92 f_2_24 rfl rfl ?_
          refine rz_getr d_Commands_takeChain_95 f_2_206 rfl rfl ?_
          refine rz_iconst (v := 0) d_Commands_takeChain_98 (by decide) ?_
          refine rz_ialdv (F := Sq6.1 40) (i := 0) d_Commands_takeChain_99 rfl (by decide) rfl (by decide) ?_
          refine rz_pure (pc' := 101) (l' := [(3, .int (Sq6.1 40 0)), (6, .int xq6), (0, .ref 108), (4, .int a4), (5, .int a5)]) d_Commands_takeChain_100 rfl ?_
          refine rz_pure (pc' := 102) d_Commands_takeChain_101 rfl ?_
          refine rz_getr d_Commands_takeChain_102 f_2_24 rfl rfl ?_
          refine rz_getr d_Commands_takeChain_105 f_2_206 rfl rfl ?_
          refine rz_iconst (v := 1) d_Commands_takeChain_108 (by decide) ?_
          refine rz_ialdv (F := Sq6.1 40) (i := 1) d_Commands_takeChain_109 rfl (by decide) rfl (by decide) ?_
          refine rz_pure (pc' := 112) (l' := [(4, .int (Sq6.1 40 1)), (3, .int (Sq6.1 40 0)), (6, .int xq6), (0, .ref 108), (5, .int a5)]) d_Commands_takeChain_110 rfl ?_
          refine rz_pure (pc' := 115) (l' := [(5, .int (a5 + 1)), (4, .int (Sq6.1 40 1)), (3, .int (Sq6.1 40 0)), (6, .int xq6), (0, .ref 108)]) d_Commands_takeChain_112 rfl ?_
          refine rz_pure (pc' := 8) d_Commands_takeChain_115 rfl ?_
          exact rz_pick (ks := [0, 3, 4, 5]) (l := [(0, .ref 108), (3, .int (Sq6.1 40 0)), (4, .int (Sq6.1 40 1)), (5, .int (a5 + 1))]) rfl rfl (by decide) rfl ((q6.1 b7).2 b8)
        · skip
          refine rz_pure (pc' := 90) d_Commands_takeChain_88 rfl ?_
          exact rz_ireti d_Commands_takeChain_90 rfl rfl ((q6.1 b7).1 b8)
    · skip
      refine rz_pure (pc' := 30) d_Commands_takeChain_29 rfl ?_
      refine rz_getr d_Commands_takeChain_30 f_2_38 rfl rfl ?_
      refine rz_bipush (v := 71) d_Commands_takeChain_33 (by decide) ?_
      refine rz_pure (pc' := 36) d_Commands_takeChain_35 rfl ?_
      refine rz_pure (pc' := 38) d_Commands_takeChain_36 rfl ?_
      refine rz_callVi (t := [.int a4, .int a3, .int 71]) d_Commands_takeChain_38 w_2_73 rfl rfl rfl (q3.1 b4) (fun xq9 Sq9 q9 => ?_)
      exact rz_ireti d_Commands_takeChain_41 rfl rfl q9
theorem d_Commands_user_0 : decode (rm_code mCommands_user) 0 = .ok (.aload_n 0, 1) := by decide +kernel
theorem d_Commands_user_1 : decode (rm_code mCommands_user) 1 = .ok (.getfield 48, 3) := by decide +kernel
theorem d_Commands_user_4 : decode (rm_code mCommands_user) 4 = .ok (.iconst 1, 1) := by decide +kernel
theorem d_Commands_user_5 : decode (rm_code mCommands_user) 5 = .ok (.invokevirtual 77, 3) := by decide +kernel
theorem d_Commands_user_8 : decode (rm_code mCommands_user) 8 = .ok (.lookupswitch (71) #[((49), (36)), ((50), (42)), ((73), (48))], 36) := by decide +kernel
theorem d_Commands_user_44 : decode (rm_code mCommands_user) 44 = .ok (.aload_n 0, 1) := by decide +kernel
theorem d_Commands_user_45 : decode (rm_code mCommands_user) 45 = .ok (.iconst 0, 1) := by decide +kernel
theorem d_Commands_user_46 : decode (rm_code mCommands_user) 46 = .ok (.invokevirtual 217, 3) := by decide +kernel
theorem d_Commands_user_49 : decode (rm_code mCommands_user) 49 = .ok (.ireturn, 1) := by decide +kernel
theorem d_Commands_user_50 : decode (rm_code mCommands_user) 50 = .ok (.aload_n 0, 1) := by decide +kernel
theorem d_Commands_user_51 : decode (rm_code mCommands_user) 51 = .ok (.iconst 1, 1) := by decide +kernel
theorem d_Commands_user_52 : decode (rm_code mCommands_user) 52 = .ok (.invokevirtual 217, 3) := by decide +kernel
theorem d_Commands_user_55 : decode (rm_code mCommands_user) 55 = .ok (.ireturn, 1) := by decide +kernel
theorem d_Commands_user_56 : decode (rm_code mCommands_user) 56 = .ok (.aload_n 0, 1) := by decide +kernel
theorem d_Commands_user_57 : decode (rm_code mCommands_user) 57 = .ok (.getfield 48, 3) := by decide +kernel
theorem d_Commands_user_60 : decode (rm_code mCommands_user) 60 = .ok (.getfield 62, 3) := by decide +kernel
theorem d_Commands_user_63 : decode (rm_code mCommands_user) 63 = .ok (.iconst 2, 1) := by decide +kernel
theorem d_Commands_user_64 : decode (rm_code mCommands_user) 64 = .ok (.if_icmp .ne (10), 3) := by decide +kernel
theorem d_Commands_user_67 : decode (rm_code mCommands_user) 67 = .ok (.aload_n 0, 1) := by decide +kernel
theorem d_Commands_user_68 : decode (rm_code mCommands_user) 68 = .ok (.invokevirtual 221, 3) := by decide +kernel
theorem d_Commands_user_71 : decode (rm_code mCommands_user) 71 = .ok (.goto (7), 3) := by decide +kernel
theorem d_Commands_user_74 : decode (rm_code mCommands_user) 74 = .ok (.aload_n 0, 1) := by decide +kernel
theorem d_Commands_user_75 : decode (rm_code mCommands_user) 75 = .ok (.invokevirtual 94, 3) := by decide +kernel
theorem d_Commands_user_78 : decode (rm_code mCommands_user) 78 = .ok (.ireturn, 1) := by decide +kernel
theorem d_Commands_user_79 : decode (rm_code mCommands_user) 79 = .ok (.aload_n 0, 1) := by decide +kernel
theorem d_Commands_user_80 : decode (rm_code mCommands_user) 80 = .ok (.invokevirtual 94, 3) := by decide +kernel
theorem d_Commands_user_83 : decode (rm_code mCommands_user) 83 = .ok (.ireturn, 1) := by decide +kernel
theorem p_Commands_user_0 {S : rz_S} {K : Int32 → rz_S → Prop} (w : rz_ev mTape_byteAt [.ref 1, .int 1] S (rz_i (fun xq1 Sq1 => ((xq1 = 49 → rz_ev mCommands_moveBlock [.ref 108, .int 0] Sq1 (rz_i (fun xq3 Sq3 => K xq3 Sq3))) ∧ (xq1 = 50 → rz_ev mCommands_moveBlock [.ref 108, .int 1] Sq1 (rz_i (fun xq5 Sq5 => K xq5 Sq5))) ∧ (xq1 = 73 → ((Sq1.2 1 2 = 2 → rz_ev mCommands_restart [.ref 108] Sq1 (rz_i (fun xq9 Sq9 => K xq9 Sq9))) ∧ (¬ Sq1.2 1 2 = 2 → rz_ev mCommands_unknown [.ref 108] Sq1 (rz_i (fun xq8 Sq8 => K xq8 Sq8))))) ∧ (¬ xq1 = 49 → ¬ xq1 = 50 → ¬ xq1 = 73 → rz_ev mCommands_unknown [.ref 108] Sq1 (rz_i (fun xq10 Sq10 => K xq10 Sq10))))))) : rz mCommands_user 0 [(0, .ref 108)] [] S (rz_i K) := by
  refine rz_pure (pc' := 1) d_Commands_user_0 rfl ?_
  refine rz_getr d_Commands_user_1 f_2_48 rfl rfl ?_
  refine rz_iconst (v := 1) d_Commands_user_4 (by decide) ?_
  refine rz_callVi (t := [.int 1]) d_Commands_user_5 w_2_77 rfl rfl rfl w (fun xq1 Sq1 q1 => ?_)
  by_cases b2 : xq1 = 49
  · refine rz_lsj (v := 49) (tgt := 44) d_Commands_user_8 b2 rfl ?_
    refine rz_pure (pc' := 45) d_Commands_user_44 rfl ?_
    refine rz_iconst (v := 0) d_Commands_user_45 (by decide) ?_
    refine rz_callVi (t := [.int 0]) d_Commands_user_46 w_2_217 rfl rfl rfl (q1.1 b2) (fun xq3 Sq3 q3 => ?_)
    exact rz_ireti d_Commands_user_49 rfl rfl q3
  by_cases b4 : xq1 = 50
  · refine rz_lsj (v := 50) (tgt := 50) d_Commands_user_8 b4 rfl ?_
    refine rz_pure (pc' := 51) d_Commands_user_50 rfl ?_
    refine rz_iconst (v := 1) d_Commands_user_51 (by decide) ?_
    refine rz_callVi (t := [.int 1]) d_Commands_user_52 w_2_217 rfl rfl rfl (q1.2.1 b4) (fun xq5 Sq5 q5 => ?_)
    exact rz_ireti d_Commands_user_55 rfl rfl q5
  by_cases b6 : xq1 = 73
  · refine rz_lsj (v := 73) (tgt := 56) d_Commands_user_8 b6 rfl ?_
    refine rz_pure (pc' := 57) d_Commands_user_56 rfl ?_
    refine rz_getr d_Commands_user_57 f_2_48 rfl rfl ?_
    refine rz_getiv (v := Sq1.2 1 2) d_Commands_user_60 f_2_62 rfl rfl rfl ?_
    refine rz_iconst (v := 2) d_Commands_user_63 (by decide) ?_
    refine rz_icmpne (tgt := 74) d_Commands_user_64 rfl (fun b7 => ?_) (fun b7 => ?_)
    · skip
      refine rz_pure (pc' := 75) d_Commands_user_74 rfl ?_
      refine rz_callVi (t := []) d_Commands_user_75 w_2_94 rfl rfl rfl ((q1.2.2.1 b6).2 b7) (fun xq8 Sq8 q8 => ?_)
      exact rz_ireti d_Commands_user_78 rfl rfl q8
    · skip
      refine rz_pure (pc' := 68) d_Commands_user_67 rfl ?_
      refine rz_callVi (t := []) d_Commands_user_68 w_2_221 rfl rfl rfl ((q1.2.2.1 b6).1 b7) (fun xq9 Sq9 q9 => ?_)
      refine rz_pure (pc' := 78) d_Commands_user_71 rfl ?_
      exact rz_ireti d_Commands_user_78 rfl rfl q9
  refine rz_lsd (tgt := 79) d_Commands_user_8 rfl ⟨b2, b4, b6, trivial⟩ rfl ?_
  refine rz_pure (pc' := 80) d_Commands_user_79 rfl ?_
  refine rz_callVi (t := []) d_Commands_user_80 w_2_94 rfl rfl rfl (q1.2.2.2 b2 b4 b6) (fun xq10 Sq10 q10 => ?_)
  exact rz_ireti d_Commands_user_83 rfl rfl q10
theorem d_Commands_moveBlock_0 : decode (rm_code mCommands_moveBlock) 0 = .ok (.aload_n 0, 1) := by decide +kernel
theorem d_Commands_moveBlock_1 : decode (rm_code mCommands_moveBlock) 1 = .ok (.getfield 48, 3) := by decide +kernel
theorem d_Commands_moveBlock_4 : decode (rm_code mCommands_moveBlock) 4 = .ok (.invokevirtual 227, 3) := by decide +kernel
theorem d_Commands_moveBlock_7 : decode (rm_code mCommands_moveBlock) 7 = .ok (.aload_n 0, 1) := by decide +kernel
theorem d_Commands_moveBlock_8 : decode (rm_code mCommands_moveBlock) 8 = .ok (.getfield 48, 3) := by decide +kernel
theorem d_Commands_moveBlock_11 : decode (rm_code mCommands_moveBlock) 11 = .ok (.invokevirtual 230, 3) := by decide +kernel
theorem d_Commands_moveBlock_14 : decode (rm_code mCommands_moveBlock) 14 = .ok (.istore_n 2, 1) := by decide +kernel
theorem d_Commands_moveBlock_15 : decode (rm_code mCommands_moveBlock) 15 = .ok (.aload_n 0, 1) := by decide +kernel
theorem d_Commands_moveBlock_16 : decode (rm_code mCommands_moveBlock) 16 = .ok (.getfield 48, 3) := by decide +kernel
theorem d_Commands_moveBlock_19 : decode (rm_code mCommands_moveBlock) 19 = .ok (.invokevirtual 230, 3) := by decide +kernel
theorem d_Commands_moveBlock_22 : decode (rm_code mCommands_moveBlock) 22 = .ok (.istore_n 3, 1) := by decide +kernel
theorem d_Commands_moveBlock_23 : decode (rm_code mCommands_moveBlock) 23 = .ok (.aload_n 0, 1) := by decide +kernel
theorem d_Commands_moveBlock_24 : decode (rm_code mCommands_moveBlock) 24 = .ok (.getfield 48, 3) := by decide +kernel
theorem d_Commands_moveBlock_27 : decode (rm_code mCommands_moveBlock) 27 = .ok (.invokevirtual 230, 3) := by decide +kernel
theorem d_Commands_moveBlock_30 : decode (rm_code mCommands_moveBlock) 30 = .ok (.istore 4, 2) := by decide +kernel
theorem d_Commands_moveBlock_32 : decode (rm_code mCommands_moveBlock) 32 = .ok (.iload_n 2, 1) := by decide +kernel
theorem d_Commands_moveBlock_33 : decode (rm_code mCommands_moveBlock) 33 = .ok (.iconst (-1), 1) := by decide +kernel
theorem d_Commands_moveBlock_34 : decode (rm_code mCommands_moveBlock) 34 = .ok (.if_icmp .eq (14), 3) := by decide +kernel
theorem d_Commands_moveBlock_37 : decode (rm_code mCommands_moveBlock) 37 = .ok (.iload_n 3, 1) := by decide +kernel
theorem d_Commands_moveBlock_38 : decode (rm_code mCommands_moveBlock) 38 = .ok (.iconst (-1), 1) := by decide +kernel
theorem d_Commands_moveBlock_39 : decode (rm_code mCommands_moveBlock) 39 = .ok (.if_icmp .eq (9), 3) := by decide +kernel
theorem d_Commands_moveBlock_42 : decode (rm_code mCommands_moveBlock) 42 = .ok (.iload 4, 2) := by decide +kernel
theorem d_Commands_moveBlock_44 : decode (rm_code mCommands_moveBlock) 44 = .ok (.iconst (-1), 1) := by decide +kernel
theorem d_Commands_moveBlock_45 : decode (rm_code mCommands_moveBlock) 45 = .ok (.if_icmp .ne (15), 3) := by decide +kernel
theorem d_Commands_moveBlock_48 : decode (rm_code mCommands_moveBlock) 48 = .ok (.aload_n 0, 1) := by decide +kernel
theorem d_Commands_moveBlock_49 : decode (rm_code mCommands_moveBlock) 49 = .ok (.getfield 38, 3) := by decide +kernel
theorem d_Commands_moveBlock_52 : decode (rm_code mCommands_moveBlock) 52 = .ok (.bipush (30), 2) := by decide +kernel
theorem d_Commands_moveBlock_54 : decode (rm_code mCommands_moveBlock) 54 = .ok (.iconst 0, 1) := by decide +kernel
theorem d_Commands_moveBlock_55 : decode (rm_code mCommands_moveBlock) 55 = .ok (.iconst 0, 1) := by decide +kernel
theorem d_Commands_moveBlock_56 : decode (rm_code mCommands_moveBlock) 56 = .ok (.invokevirtual 73, 3) := by decide +kernel
theorem d_Commands_moveBlock_59 : decode (rm_code mCommands_moveBlock) 59 = .ok (.ireturn, 1) := by decide +kernel
theorem d_Commands_moveBlock_60 : decode (rm_code mCommands_moveBlock) 60 = .ok (.aload_n 0, 1) := by decide +kernel
theorem d_Commands_moveBlock_61 : decode (rm_code mCommands_moveBlock) 61 = .ok (.getfield 24, 3) := by decide +kernel
theorem d_Commands_moveBlock_64 : decode (rm_code mCommands_moveBlock) 64 = .ok (.iload_n 2, 1) := by decide +kernel
theorem d_Commands_moveBlock_65 : decode (rm_code mCommands_moveBlock) 65 = .ok (.invokevirtual 233, 3) := by decide +kernel
theorem d_Commands_moveBlock_68 : decode (rm_code mCommands_moveBlock) 68 = .ok (.astore 5, 2) := by decide +kernel
theorem d_Commands_moveBlock_70 : decode (rm_code mCommands_moveBlock) 70 = .ok (.aload 5, 2) := by decide +kernel
theorem d_Commands_moveBlock_72 : decode (rm_code mCommands_moveBlock) 72 = .ok (.ifnonnull (15), 3) := by decide +kernel
theorem d_Commands_moveBlock_75 : decode (rm_code mCommands_moveBlock) 75 = .ok (.aload_n 0, 1) := by decide +kernel
theorem d_Commands_moveBlock_76 : decode (rm_code mCommands_moveBlock) 76 = .ok (.getfield 38, 3) := by decide +kernel
theorem d_Commands_moveBlock_79 : decode (rm_code mCommands_moveBlock) 79 = .ok (.bipush (70), 2) := by decide +kernel
theorem d_Commands_moveBlock_81 : decode (rm_code mCommands_moveBlock) 81 = .ok (.iconst 0, 1) := by decide +kernel
theorem d_Commands_moveBlock_82 : decode (rm_code mCommands_moveBlock) 82 = .ok (.iconst 0, 1) := by decide +kernel
theorem d_Commands_moveBlock_83 : decode (rm_code mCommands_moveBlock) 83 = .ok (.invokevirtual 73, 3) := by decide +kernel
theorem d_Commands_moveBlock_86 : decode (rm_code mCommands_moveBlock) 86 = .ok (.ireturn, 1) := by decide +kernel
theorem d_Commands_moveBlock_87 : decode (rm_code mCommands_moveBlock) 87 = .ok (.iload_n 3, 1) := by decide +kernel
theorem d_Commands_moveBlock_88 : decode (rm_code mCommands_moveBlock) 88 = .ok (.iload 4, 2) := by decide +kernel
theorem d_Commands_moveBlock_90 : decode (rm_code mCommands_moveBlock) 90 = .ok (.invokestatic 202, 3) := by decide +kernel
theorem d_Commands_moveBlock_93 : decode (rm_code mCommands_moveBlock) 93 = .ok (.ifCond .ne (16), 3) := by decide +kernel
theorem d_Commands_moveBlock_96 : decode (rm_code mCommands_moveBlock) 96 = .ok (.aload_n 0, 1) := by decide +kernel
theorem d_Commands_moveBlock_97 : decode (rm_code mCommands_moveBlock) 97 = .ok (.getfield 38, 3) := by decide +kernel
theorem d_Commands_moveBlock_100 : decode (rm_code mCommands_moveBlock) 100 = .ok (.bipush (66), 2) := by decide +kernel
theorem d_Commands_moveBlock_102 : decode (rm_code mCommands_moveBlock) 102 = .ok (.iload_n 3, 1) := by decide +kernel
theorem d_Commands_moveBlock_103 : decode (rm_code mCommands_moveBlock) 103 = .ok (.iload 4, 2) := by decide +kernel
theorem d_Commands_moveBlock_105 : decode (rm_code mCommands_moveBlock) 105 = .ok (.invokevirtual 73, 3) := by decide +kernel
theorem d_Commands_moveBlock_108 : decode (rm_code mCommands_moveBlock) 108 = .ok (.ireturn, 1) := by decide +kernel
theorem d_Commands_moveBlock_109 : decode (rm_code mCommands_moveBlock) 109 = .ok (.iload_n 1, 1) := by decide +kernel
theorem d_Commands_moveBlock_110 : decode (rm_code mCommands_moveBlock) 110 = .ok (.ifCond .eq (19), 3) := by decide +kernel
theorem d_Commands_moveBlock_113 : decode (rm_code mCommands_moveBlock) 113 = .ok (.aload_n 0, 1) := by decide +kernel
theorem d_Commands_moveBlock_114 : decode (rm_code mCommands_moveBlock) 114 = .ok (.getfield 43, 3) := by decide +kernel
theorem d_Commands_moveBlock_117 : decode (rm_code mCommands_moveBlock) 117 = .ok (.iload_n 3, 1) := by decide +kernel
theorem d_Commands_moveBlock_118 : decode (rm_code mCommands_moveBlock) 118 = .ok (.iload 4, 2) := by decide +kernel
theorem d_Commands_moveBlock_120 : decode (rm_code mCommands_moveBlock) 120 = .ok (.aload 5, 2) := by decide +kernel
theorem d_Commands_moveBlock_122 : decode (rm_code mCommands_moveBlock) 122 = .ok (.getfield 237, 3) := by decide +kernel
theorem d_Commands_moveBlock_125 : decode (rm_code mCommands_moveBlock) 125 = .ok (.invokevirtual 240, 3) := by decide +kernel
theorem d_Commands_moveBlock_128 : decode (rm_code mCommands_moveBlock) 128 = .ok (.ireturn, 1) := by decide +kernel
theorem d_Commands_moveBlock_129 : decode (rm_code mCommands_moveBlock) 129 = .ok (.aload_n 0, 1) := by decide +kernel
theorem d_Commands_moveBlock_130 : decode (rm_code mCommands_moveBlock) 130 = .ok (.getfield 43, 3) := by decide +kernel
theorem d_Commands_moveBlock_133 : decode (rm_code mCommands_moveBlock) 133 = .ok (.iload_n 3, 1) := by decide +kernel
theorem d_Commands_moveBlock_134 : decode (rm_code mCommands_moveBlock) 134 = .ok (.iload 4, 2) := by decide +kernel
theorem d_Commands_moveBlock_136 : decode (rm_code mCommands_moveBlock) 136 = .ok (.aload 5, 2) := by decide +kernel
theorem d_Commands_moveBlock_138 : decode (rm_code mCommands_moveBlock) 138 = .ok (.getfield 237, 3) := by decide +kernel
theorem d_Commands_moveBlock_141 : decode (rm_code mCommands_moveBlock) 141 = .ok (.invokevirtual 210, 3) := by decide +kernel
theorem d_Commands_moveBlock_144 : decode (rm_code mCommands_moveBlock) 144 = .ok (.istore 6, 2) := by decide +kernel
theorem d_Commands_moveBlock_146 : decode (rm_code mCommands_moveBlock) 146 = .ok (.iload 6, 2) := by decide +kernel
theorem d_Commands_moveBlock_148 : decode (rm_code mCommands_moveBlock) 148 = .ok (.ifCond .ne (9), 3) := by decide +kernel
theorem d_Commands_moveBlock_151 : decode (rm_code mCommands_moveBlock) 151 = .ok (.aload 5, 2) := by decide +kernel
theorem d_Commands_moveBlock_153 : decode (rm_code mCommands_moveBlock) 153 = .ok (.iconst 0, 1) := by decide +kernel
theorem d_Commands_moveBlock_154 : decode (rm_code mCommands_moveBlock) 154 = .ok (.putfield 243, 3) := by decide +kernel
theorem d_Commands_moveBlock_157 : decode (rm_code mCommands_moveBlock) 157 = .ok (.iload 6, 2) := by decide +kernel
theorem d_Commands_moveBlock_159 : decode (rm_code mCommands_moveBlock) 159 = .ok (.ireturn, 1) := by decide +kernel
theorem p_Commands_moveBlock_0 {S : rz_S} {K : Int32 → rz_S → Prop} {a1 : Int32} (w : rz_ev mTape_startNumbers [.ref 1] S (rz_v (fun Sq1 => rz_ev mTape_nextNumber [.ref 1] Sq1 (rz_i (fun xq2 Sq2 => rz_ev mTape_nextNumber [.ref 1] Sq2 (rz_i (fun xq3 Sq3 => rz_ev mTape_nextNumber [.ref 1] Sq3 (rz_i (fun xq4 Sq4 => ((xq2 = (-1) → rz mCommands_moveBlock 48 [(0, .ref 108)] [] Sq4 (rz_i K)) ∧ (¬ xq2 = (-1) → ((xq3 = (-1) → rz mCommands_moveBlock 48 [(0, .ref 108)] [] Sq4 (rz_i K)) ∧ (¬ xq3 = (-1) → ((xq4 = (-1) → rz mCommands_moveBlock 48 [(0, .ref 108)] [] Sq4 (rz_i K)) ∧ (¬ xq4 = (-1) → rz_ev mDos_buffer [.ref 39, .int xq2] Sq4 (rz_r (fun xq8 Sq8 => rz mCommands_moveBlock 68 [(0, .ref 108), (1, .int a1), (3, .int xq3), (4, .int xq4)] (xq8 :: []) Sq8 (rz_i K)))))))))))))))))) : rz mCommands_moveBlock 0 [(0, .ref 108), (1, .int a1)] [] S (rz_i K) := by
  refine rz_pure (pc' := 1) d_Commands_moveBlock_0 rfl ?_
  refine rz_getr d_Commands_moveBlock_1 f_2_48 rfl rfl ?_
  refine rz_callVv (t := []) d_Commands_moveBlock_4 w_2_227 rfl rfl rfl w (fun Sq1 q1 => ?_)
  refine rz_pure (pc' := 8) d_Commands_moveBlock_7 rfl ?_
  refine rz_getr d_Commands_moveBlock_8 f_2_48 rfl rfl ?_
  refine rz_callVi (t := []) d_Commands_moveBlock_11 w_2_230 rfl rfl rfl q1 (fun xq2 Sq2 q2 => ?_)
  refine rz_pure (pc' := 15) (l' := [(2, .int xq2), (0, .ref 108), (1, .int a1)]) d_Commands_moveBlock_14 rfl ?_
  refine rz_pure (pc' := 16) d_Commands_moveBlock_15 rfl ?_
  refine rz_getr d_Commands_moveBlock_16 f_2_48 rfl rfl ?_
  refine rz_callVi (t := []) d_Commands_moveBlock_19 w_2_230 rfl rfl rfl q2 (fun xq3 Sq3 q3 => ?_)
  refine rz_pure (pc' := 23) (l' := [(3, .int xq3), (2, .int xq2), (0, .ref 108), (1, .int a1)]) d_Commands_moveBlock_22 rfl ?_
  refine rz_pure (pc' := 24) d_Commands_moveBlock_23 rfl ?_
  refine rz_getr d_Commands_moveBlock_24 f_2_48 rfl rfl ?_
  refine rz_callVi (t := []) d_Commands_moveBlock_27 w_2_230 rfl rfl rfl q3 (fun xq4 Sq4 q4 => ?_)
  refine rz_pure (pc' := 32) (l' := [(4, .int xq4), (3, .int xq3), (2, .int xq2), (0, .ref 108), (1, .int a1)]) d_Commands_moveBlock_30 rfl ?_
  refine rz_pure (pc' := 33) d_Commands_moveBlock_32 rfl ?_
  refine rz_iconst (v := -1) d_Commands_moveBlock_33 (by decide) ?_
  refine rz_icmpeq (tgt := 48) d_Commands_moveBlock_34 rfl (fun b5 => ?_) (fun b5 => ?_)
  · skip
    exact rz_pick (ks := [0]) (l := [(0, .ref 108)]) rfl rfl (by decide) rfl (q4.1 b5)
  · skip
    refine rz_pure (pc' := 38) d_Commands_moveBlock_37 rfl ?_
    refine rz_iconst (v := -1) d_Commands_moveBlock_38 (by decide) ?_
    refine rz_icmpeq (tgt := 48) d_Commands_moveBlock_39 rfl (fun b6 => ?_) (fun b6 => ?_)
    · skip
      exact rz_pick (ks := [0]) (l := [(0, .ref 108)]) rfl rfl (by decide) rfl ((q4.2 b5).1 b6)
    · skip
      refine rz_pure (pc' := 44) d_Commands_moveBlock_42 rfl ?_
      refine rz_iconst (v := -1) d_Commands_moveBlock_44 (by decide) ?_
      refine rz_icmpne (tgt := 60) d_Commands_moveBlock_45 rfl (fun b7 => ?_) (fun b7 => ?_)
      · skip
        refine rz_pure (pc' := 61) d_Commands_moveBlock_60 rfl ?_
        refine rz_getr d_Commands_moveBlock_61 f_2_24 rfl rfl ?_
        refine rz_pure (pc' := 65) d_Commands_moveBlock_64 rfl ?_
        refine rz_callVr (t := [.int xq2]) d_Commands_moveBlock_65 w_2_233 rfl rfl rfl (((q4.2 b5).2 b6).2 b7) (fun xq8 Sq8 q8 => ?_)
        exact rz_pick (ks := [0, 1, 3, 4]) (l := [(0, .ref 108), (1, .int a1), (3, .int xq3), (4, .int xq4)]) rfl rfl (by decide) rfl q8
      · skip
        exact rz_pick (ks := [0]) (l := [(0, .ref 108)]) rfl rfl (by decide) rfl (((q4.2 b5).2 b6).1 b7)
theorem p_Commands_moveBlock_48 {S : rz_S} {K : Int32 → rz_S → Prop} (w : rz_ev mStatus_set [.ref 3, .int 30, .int 0, .int 0] S (rz_i (fun xq1 Sq1 => K xq1 Sq1))) : rz mCommands_moveBlock 48 [(0, .ref 108)] [] S (rz_i K) := by
  refine rz_pure (pc' := 49) d_Commands_moveBlock_48 rfl ?_
  refine rz_getr d_Commands_moveBlock_49 f_2_38 rfl rfl ?_
  refine rz_bipush (v := 30) d_Commands_moveBlock_52 (by decide) ?_
  refine rz_iconst (v := 0) d_Commands_moveBlock_54 (by decide) ?_
  refine rz_iconst (v := 0) d_Commands_moveBlock_55 (by decide) ?_
  refine rz_callVi (t := [.int 0, .int 0, .int 30]) d_Commands_moveBlock_56 w_2_73 rfl rfl rfl w (fun xq1 Sq1 q1 => ?_)
  exact rz_ireti d_Commands_moveBlock_59 rfl rfl q1
theorem p_Commands_moveBlock_68 {S : rz_S} {K : Int32 → rz_S → Prop} {a1 : Int32} {a3 : Int32} {a4 : Int32} (w : rz_ev mStatus_set [.ref 3, .int 70, .int 0, .int 0] S (rz_i (fun xq1 Sq1 => K xq1 Sq1))) : rz mCommands_moveBlock 68 [(0, .ref 108), (1, .int a1), (3, .int a3), (4, .int a4)] [.null] S (rz_i K) := by
  refine rz_pure (pc' := 70) (l' := [(5, .null), (0, .ref 108), (1, .int a1), (3, .int a3), (4, .int a4)]) d_Commands_moveBlock_68 rfl ?_
  refine rz_pure (pc' := 72) d_Commands_moveBlock_70 rfl ?_
  refine rz_pure (pc' := 75) d_Commands_moveBlock_72 rfl ?_
  refine rz_pure (pc' := 76) d_Commands_moveBlock_75 rfl ?_
  refine rz_getr d_Commands_moveBlock_76 f_2_38 rfl rfl ?_
  refine rz_bipush (v := 70) d_Commands_moveBlock_79 (by decide) ?_
  refine rz_iconst (v := 0) d_Commands_moveBlock_81 (by decide) ?_
  refine rz_iconst (v := 0) d_Commands_moveBlock_82 (by decide) ?_
  refine rz_callVi (t := [.int 0, .int 0, .int 70]) d_Commands_moveBlock_83 w_2_73 rfl rfl rfl w (fun xq1 Sq1 q1 => ?_)
  exact rz_ireti d_Commands_moveBlock_86 rfl rfl q1
theorem p_Commands_moveBlock_68' {S : rz_S} {K : Int32 → rz_S → Prop} {a1 : Int32} {a3 : Int32} {a4 : Int32} {s0 : Nat} (hs0 : chP s0) (w : rz_ev mDisk_isLegal [.int a3, .int a4] S (rz_i (fun xq1 Sq1 => ((xq1 = 0 → rz_ev mStatus_set [.ref 3, .int 66, .int a3, .int a4] Sq1 (rz_i (fun xq7 Sq7 => K xq7 Sq7))) ∧ (¬ xq1 = 0 → ((a1 = 0 → rz_ev mDisk_readBlock [.ref 6, .int a3, .int a4, .ref (s0 + 1)] Sq1 (rz_i (fun xq4 Sq4 => ((xq4 = 0 → K xq4 (rz_uI Sq4 s0 2 0)) ∧ (¬ xq4 = 0 → K xq4 Sq4))))) ∧ (¬ a1 = 0 → rz_ev mDisk_writeBlock [.ref 6, .int a3, .int a4, .ref (s0 + 1)] Sq1 (rz_i (fun xq6 Sq6 => K xq6 Sq6))))))))) : rz mCommands_moveBlock 68 [(0, .ref 108), (1, .int a1), (3, .int a3), (4, .int a4)] [.ref s0] S (rz_i K) := by
  have zs0 := chZ hs0
  refine rz_pure (pc' := 70) (l' := [(5, .ref s0), (0, .ref 108), (1, .int a1), (3, .int a3), (4, .int a4)]) d_Commands_moveBlock_68 rfl ?_
  refine rz_pure (pc' := 72) d_Commands_moveBlock_70 rfl ?_
  refine rz_pure (pc' := 87) d_Commands_moveBlock_72 rfl ?_
  refine rz_pure (pc' := 88) d_Commands_moveBlock_87 rfl ?_
  refine rz_pure (pc' := 90) d_Commands_moveBlock_88 rfl ?_
  refine rz_callSi (t := [.int a4, .int a3]) d_Commands_moveBlock_90 rfl w_2_202 rfl rfl w (fun xq1 Sq1 q1 => ?_)
  refine rz_ifne (tgt := 109) d_Commands_moveBlock_93 rfl (fun b2 => ?_) (fun b2 => ?_)
  · skip
    refine rz_pure (pc' := 110) d_Commands_moveBlock_109 rfl ?_
    refine rz_ifeq (tgt := 129) d_Commands_moveBlock_110 rfl (fun b3 => ?_) (fun b3 => ?_)
    · skip
      refine rz_pure (pc' := 130) d_Commands_moveBlock_129 rfl ?_
      refine rz_getr d_Commands_moveBlock_130 f_2_43 rfl rfl ?_
      refine rz_pure (pc' := 134) d_Commands_moveBlock_133 rfl ?_
      refine rz_pure (pc' := 136) d_Commands_moveBlock_134 rfl ?_
      refine rz_pure (pc' := 138) d_Commands_moveBlock_136 rfl ?_
      refine rz_getr d_Commands_moveBlock_138 f_2_237 (chTP hs0) rfl ?_
      refine rz_callVi (t := [.ref (s0 + 1), .int a4, .int a3]) d_Commands_moveBlock_141 w_2_210 rfl rfl rfl ((q1.2 b2).1 b3) (fun xq4 Sq4 q4 => ?_)
      refine rz_pure (pc' := 146) (l' := [(6, .int xq4), (5, .ref s0), (0, .ref 108), (1, .int a1), (3, .int a3), (4, .int a4)]) d_Commands_moveBlock_144 rfl ?_
      refine rz_pure (pc' := 148) d_Commands_moveBlock_146 rfl ?_
      refine rz_ifne (tgt := 157) d_Commands_moveBlock_148 rfl (fun b5 => ?_) (fun b5 => ?_)
      · skip
        refine rz_pure (pc' := 159) d_Commands_moveBlock_157 rfl ?_
        exact rz_ireti d_Commands_moveBlock_159 rfl rfl (q4.2 b5)
      · skip
        refine rz_pure (pc' := 153) d_Commands_moveBlock_151 rfl ?_
        refine rz_iconst (v := 0) d_Commands_moveBlock_153 (by decide) ?_
        refine rz_puti d_Commands_moveBlock_154 f_2_243 (chTP hs0) rfl rfl ?_
        refine rz_pure (pc' := 159) d_Commands_moveBlock_157 rfl ?_
        exact rz_ireti d_Commands_moveBlock_159 rfl rfl (q4.1 b5)
    · skip
      refine rz_pure (pc' := 114) d_Commands_moveBlock_113 rfl ?_
      refine rz_getr d_Commands_moveBlock_114 f_2_43 rfl rfl ?_
      refine rz_pure (pc' := 118) d_Commands_moveBlock_117 rfl ?_
      refine rz_pure (pc' := 120) d_Commands_moveBlock_118 rfl ?_
      refine rz_pure (pc' := 122) d_Commands_moveBlock_120 rfl ?_
      refine rz_getr d_Commands_moveBlock_122 f_2_237 (chTP hs0) rfl ?_
      refine rz_callVi (t := [.ref (s0 + 1), .int a4, .int a3]) d_Commands_moveBlock_125 w_2_240 rfl rfl rfl ((q1.2 b2).2 b3) (fun xq6 Sq6 q6 => ?_)
      exact rz_ireti d_Commands_moveBlock_128 rfl rfl q6
  · skip
    refine rz_pure (pc' := 97) d_Commands_moveBlock_96 rfl ?_
    refine rz_getr d_Commands_moveBlock_97 f_2_38 rfl rfl ?_
    refine rz_bipush (v := 66) d_Commands_moveBlock_100 (by decide) ?_
    refine rz_pure (pc' := 103) d_Commands_moveBlock_102 rfl ?_
    refine rz_pure (pc' := 105) d_Commands_moveBlock_103 rfl ?_
    refine rz_callVi (t := [.int a4, .int a3, .int 66]) d_Commands_moveBlock_105 w_2_73 rfl rfl rfl (q1.1 b2) (fun xq7 Sq7 q7 => ?_)
    exact rz_ireti d_Commands_moveBlock_108 rfl rfl q7
theorem d_Commands_restart_0 : decode (rm_code mCommands_restart) 0 = .ok (.aload_n 0, 1) := by decide +kernel
theorem d_Commands_restart_1 : decode (rm_code mCommands_restart) 1 = .ok (.getfield 24, 3) := by decide +kernel
theorem d_Commands_restart_4 : decode (rm_code mCommands_restart) 4 = .ok (.invokevirtual 148, 3) := by decide +kernel
theorem d_Commands_restart_7 : decode (rm_code mCommands_restart) 7 = .ok (.aload_n 0, 1) := by decide +kernel
theorem d_Commands_restart_8 : decode (rm_code mCommands_restart) 8 = .ok (.getfield 43, 3) := by decide +kernel
theorem d_Commands_restart_11 : decode (rm_code mCommands_restart) 11 = .ok (.invokevirtual 224, 3) := by decide +kernel
theorem d_Commands_restart_14 : decode (rm_code mCommands_restart) 14 = .ok (.aload_n 0, 1) := by decide +kernel
theorem d_Commands_restart_15 : decode (rm_code mCommands_restart) 15 = .ok (.getfield 38, 3) := by decide +kernel
theorem d_Commands_restart_18 : decode (rm_code mCommands_restart) 18 = .ok (.bipush (73), 2) := by decide +kernel
theorem d_Commands_restart_20 : decode (rm_code mCommands_restart) 20 = .ok (.iconst 0, 1) := by decide +kernel
theorem d_Commands_restart_21 : decode (rm_code mCommands_restart) 21 = .ok (.iconst 0, 1) := by decide +kernel
theorem d_Commands_restart_22 : decode (rm_code mCommands_restart) 22 = .ok (.invokevirtual 73, 3) := by decide +kernel
theorem d_Commands_restart_25 : decode (rm_code mCommands_restart) 25 = .ok (.ireturn, 1) := by decide +kernel
theorem p_Commands_restart_0 {S : rz_S} {K : Int32 → rz_S → Prop} (w : rz_ev mDos_dropAll [.ref 39] S (rz_v (fun Sq1 => rz_ev mDisk_dropId [.ref 6] Sq1 (rz_v (fun Sq2 => rz_ev mStatus_set [.ref 3, .int 73, .int 0, .int 0] Sq2 (rz_i (fun xq3 Sq3 => K xq3 Sq3))))))) : rz mCommands_restart 0 [(0, .ref 108)] [] S (rz_i K) := by
  refine rz_pure (pc' := 1) d_Commands_restart_0 rfl ?_
  refine rz_getr d_Commands_restart_1 f_2_24 rfl rfl ?_
  refine rz_callVv (t := []) d_Commands_restart_4 w_2_148 rfl rfl rfl w (fun Sq1 q1 => ?_)
  refine rz_pure (pc' := 8) d_Commands_restart_7 rfl ?_
  refine rz_getr d_Commands_restart_8 f_2_43 rfl rfl ?_
  refine rz_callVv (t := []) d_Commands_restart_11 w_2_224 rfl rfl rfl q1 (fun Sq2 q2 => ?_)
  refine rz_pure (pc' := 15) d_Commands_restart_14 rfl ?_
  refine rz_getr d_Commands_restart_15 f_2_38 rfl rfl ?_
  refine rz_bipush (v := 73) d_Commands_restart_18 (by decide) ?_
  refine rz_iconst (v := 0) d_Commands_restart_20 (by decide) ?_
  refine rz_iconst (v := 0) d_Commands_restart_21 (by decide) ?_
  refine rz_callVi (t := [.int 0, .int 0, .int 73]) d_Commands_restart_22 w_2_73 rfl rfl rfl q2 (fun xq3 Sq3 q3 => ?_)
  exact rz_ireti d_Commands_restart_25 rfl rfl q3
theorem d_Commands_block_0 : decode (rm_code mCommands_block) 0 = .ok (.aload_n 0, 1) := by decide +kernel
theorem d_Commands_block_1 : decode (rm_code mCommands_block) 1 = .ok (.getfield 48, 3) := by decide +kernel
theorem d_Commands_block_4 : decode (rm_code mCommands_block) 4 = .ok (.iconst 2, 1) := by decide +kernel
theorem d_Commands_block_5 : decode (rm_code mCommands_block) 5 = .ok (.invokevirtual 77, 3) := by decide +kernel
theorem d_Commands_block_8 : decode (rm_code mCommands_block) 8 = .ok (.lookupswitch (53) #[((65), (41)), ((70), (47)), ((80), (36))], 36) := by decide +kernel
theorem d_Commands_block_44 : decode (rm_code mCommands_block) 44 = .ok (.aload_n 0, 1) := by decide +kernel
theorem d_Commands_block_45 : decode (rm_code mCommands_block) 45 = .ok (.invokevirtual 246, 3) := by decide +kernel
theorem d_Commands_block_48 : decode (rm_code mCommands_block) 48 = .ok (.ireturn, 1) := by decide +kernel
theorem d_Commands_block_49 : decode (rm_code mCommands_block) 49 = .ok (.aload_n 0, 1) := by decide +kernel
theorem d_Commands_block_50 : decode (rm_code mCommands_block) 50 = .ok (.iconst 1, 1) := by decide +kernel
theorem d_Commands_block_51 : decode (rm_code mCommands_block) 51 = .ok (.invokevirtual 249, 3) := by decide +kernel
theorem d_Commands_block_54 : decode (rm_code mCommands_block) 54 = .ok (.ireturn, 1) := by decide +kernel
theorem d_Commands_block_55 : decode (rm_code mCommands_block) 55 = .ok (.aload_n 0, 1) := by decide +kernel
theorem d_Commands_block_56 : decode (rm_code mCommands_block) 56 = .ok (.iconst 0, 1) := by decide +kernel
theorem d_Commands_block_57 : decode (rm_code mCommands_block) 57 = .ok (.invokevirtual 249, 3) := by decide +kernel
theorem d_Commands_block_60 : decode (rm_code mCommands_block) 60 = .ok (.ireturn, 1) := by decide +kernel
theorem d_Commands_block_61 : decode (rm_code mCommands_block) 61 = .ok (.aload_n 0, 1) := by decide +kernel
theorem d_Commands_block_62 : decode (rm_code mCommands_block) 62 = .ok (.invokevirtual 94, 3) := by decide +kernel
theorem d_Commands_block_65 : decode (rm_code mCommands_block) 65 = .ok (.ireturn, 1) := by decide +kernel
theorem p_Commands_block_0 {S : rz_S} {K : Int32 → rz_S → Prop} (w : rz_ev mTape_byteAt [.ref 1, .int 2] S (rz_i (fun xq1 Sq1 => ((xq1 = 65 → rz_ev mCommands_allocate [.ref 108, .int 1] Sq1 (rz_i (fun xq3 Sq3 => K xq3 Sq3))) ∧ (xq1 = 70 → rz_ev mCommands_allocate [.ref 108, .int 0] Sq1 (rz_i (fun xq5 Sq5 => K xq5 Sq5))) ∧ (xq1 = 80 → rz_ev mCommands_setPlace [.ref 108] Sq1 (rz_i (fun xq7 Sq7 => K xq7 Sq7))) ∧ (¬ xq1 = 65 → ¬ xq1 = 70 → ¬ xq1 = 80 → rz_ev mCommands_unknown [.ref 108] Sq1 (rz_i (fun xq8 Sq8 => K xq8 Sq8))))))) : rz mCommands_block 0 [(0, .ref 108)] [] S (rz_i K) := by
  refine rz_pure (pc' := 1) d_Commands_block_0 rfl ?_
  refine rz_getr d_Commands_block_1 f_2_48 rfl rfl ?_
  refine rz_iconst (v := 2) d_Commands_block_4 (by decide) ?_
  refine rz_callVi (t := [.int 2]) d_Commands_block_5 w_2_77 rfl rfl rfl w (fun xq1 Sq1 q1 => ?_)
  by_cases b2 : xq1 = 65
  · refine rz_lsj (v := 65) (tgt := 49) d_Commands_block_8 b2 rfl ?_
    refine rz_pure (pc' := 50) d_Commands_block_49 rfl ?_
    refine rz_iconst (v := 1) d_Commands_block_50 (by decide) ?_
    refine rz_callVi (t := [.int 1]) d_Commands_block_51 w_2_249 rfl rfl rfl (q1.1 b2) (fun xq3 Sq3 q3 => ?_)
    exact rz_ireti d_Commands_block_54 rfl rfl q3
  by_cases b4 : xq1 = 70
  · refine rz_lsj (v := 70) (tgt := 55) d_Commands_block_8 b4 rfl ?_
    refine rz_pure (pc' := 56) d_Commands_block_55 rfl ?_
    refine rz_iconst (v := 0) d_Commands_block_56 (by decide) ?_
    refine rz_callVi (t := [.int 0]) d_Commands_block_57 w_2_249 rfl rfl rfl (q1.2.1 b4) (fun xq5 Sq5 q5 => ?_)
    exact rz_ireti d_Commands_block_60 rfl rfl q5
  by_cases b6 : xq1 = 80
  · refine rz_lsj (v := 80) (tgt := 44) d_Commands_block_8 b6 rfl ?_
    refine rz_pure (pc' := 45) d_Commands_block_44 rfl ?_
    refine rz_callVi (t := []) d_Commands_block_45 w_2_246 rfl rfl rfl (q1.2.2.1 b6) (fun xq7 Sq7 q7 => ?_)
    exact rz_ireti d_Commands_block_48 rfl rfl q7
  refine rz_lsd (tgt := 61) d_Commands_block_8 rfl ⟨b2, b4, b6, trivial⟩ rfl ?_
  refine rz_pure (pc' := 62) d_Commands_block_61 rfl ?_
  refine rz_callVi (t := []) d_Commands_block_62 w_2_94 rfl rfl rfl (q1.2.2.2 b2 b4 b6) (fun xq8 Sq8 q8 => ?_)
  exact rz_ireti d_Commands_block_65 rfl rfl q8
theorem d_Commands_setPlace_0 : decode (rm_code mCommands_setPlace) 0 = .ok (.aload_n 0, 1) := by decide +kernel
theorem d_Commands_setPlace_1 : decode (rm_code mCommands_setPlace) 1 = .ok (.getfield 48, 3) := by decide +kernel
theorem d_Commands_setPlace_4 : decode (rm_code mCommands_setPlace) 4 = .ok (.invokevirtual 227, 3) := by decide +kernel
theorem d_Commands_setPlace_7 : decode (rm_code mCommands_setPlace) 7 = .ok (.aload_n 0, 1) := by decide +kernel
theorem d_Commands_setPlace_8 : decode (rm_code mCommands_setPlace) 8 = .ok (.getfield 48, 3) := by decide +kernel
theorem d_Commands_setPlace_11 : decode (rm_code mCommands_setPlace) 11 = .ok (.invokevirtual 230, 3) := by decide +kernel
theorem d_Commands_setPlace_14 : decode (rm_code mCommands_setPlace) 14 = .ok (.istore_n 1, 1) := by decide +kernel
theorem d_Commands_setPlace_15 : decode (rm_code mCommands_setPlace) 15 = .ok (.aload_n 0, 1) := by decide +kernel
theorem d_Commands_setPlace_16 : decode (rm_code mCommands_setPlace) 16 = .ok (.getfield 48, 3) := by decide +kernel
theorem d_Commands_setPlace_19 : decode (rm_code mCommands_setPlace) 19 = .ok (.invokevirtual 230, 3) := by decide +kernel
theorem d_Commands_setPlace_22 : decode (rm_code mCommands_setPlace) 22 = .ok (.istore_n 2, 1) := by decide +kernel
theorem d_Commands_setPlace_23 : decode (rm_code mCommands_setPlace) 23 = .ok (.iload_n 1, 1) := by decide +kernel
theorem d_Commands_setPlace_24 : decode (rm_code mCommands_setPlace) 24 = .ok (.iconst (-1), 1) := by decide +kernel
theorem d_Commands_setPlace_25 : decode (rm_code mCommands_setPlace) 25 = .ok (.if_icmp .eq (8), 3) := by decide +kernel
theorem d_Commands_setPlace_28 : decode (rm_code mCommands_setPlace) 28 = .ok (.iload_n 2, 1) := by decide +kernel
theorem d_Commands_setPlace_29 : decode (rm_code mCommands_setPlace) 29 = .ok (.iconst (-1), 1) := by decide +kernel
theorem d_Commands_setPlace_30 : decode (rm_code mCommands_setPlace) 30 = .ok (.if_icmp .ne (15), 3) := by decide +kernel
theorem d_Commands_setPlace_33 : decode (rm_code mCommands_setPlace) 33 = .ok (.aload_n 0, 1) := by decide +kernel
theorem d_Commands_setPlace_34 : decode (rm_code mCommands_setPlace) 34 = .ok (.getfield 38, 3) := by decide +kernel
theorem d_Commands_setPlace_37 : decode (rm_code mCommands_setPlace) 37 = .ok (.bipush (30), 2) := by decide +kernel
theorem d_Commands_setPlace_39 : decode (rm_code mCommands_setPlace) 39 = .ok (.iconst 0, 1) := by decide +kernel
theorem d_Commands_setPlace_40 : decode (rm_code mCommands_setPlace) 40 = .ok (.iconst 0, 1) := by decide +kernel
theorem d_Commands_setPlace_41 : decode (rm_code mCommands_setPlace) 41 = .ok (.invokevirtual 73, 3) := by decide +kernel
theorem d_Commands_setPlace_44 : decode (rm_code mCommands_setPlace) 44 = .ok (.ireturn, 1) := by decide +kernel
theorem d_Commands_setPlace_45 : decode (rm_code mCommands_setPlace) 45 = .ok (.aload_n 0, 1) := by decide +kernel
theorem d_Commands_setPlace_46 : decode (rm_code mCommands_setPlace) 46 = .ok (.getfield 24, 3) := by decide +kernel
theorem d_Commands_setPlace_49 : decode (rm_code mCommands_setPlace) 49 = .ok (.iload_n 1, 1) := by decide +kernel
theorem d_Commands_setPlace_50 : decode (rm_code mCommands_setPlace) 50 = .ok (.invokevirtual 233, 3) := by decide +kernel
theorem d_Commands_setPlace_53 : decode (rm_code mCommands_setPlace) 53 = .ok (.astore_n 3, 1) := by decide +kernel
theorem d_Commands_setPlace_54 : decode (rm_code mCommands_setPlace) 54 = .ok (.aload_n 3, 1) := by decide +kernel
theorem d_Commands_setPlace_55 : decode (rm_code mCommands_setPlace) 55 = .ok (.ifnonnull (15), 3) := by decide +kernel
theorem d_Commands_setPlace_58 : decode (rm_code mCommands_setPlace) 58 = .ok (.aload_n 0, 1) := by decide +kernel
theorem d_Commands_setPlace_59 : decode (rm_code mCommands_setPlace) 59 = .ok (.getfield 38, 3) := by decide +kernel
theorem d_Commands_setPlace_62 : decode (rm_code mCommands_setPlace) 62 = .ok (.bipush (70), 2) := by decide +kernel
theorem d_Commands_setPlace_64 : decode (rm_code mCommands_setPlace) 64 = .ok (.iconst 0, 1) := by decide +kernel
theorem d_Commands_setPlace_65 : decode (rm_code mCommands_setPlace) 65 = .ok (.iconst 0, 1) := by decide +kernel
theorem d_Commands_setPlace_66 : decode (rm_code mCommands_setPlace) 66 = .ok (.invokevirtual 73, 3) := by decide +kernel
theorem d_Commands_setPlace_69 : decode (rm_code mCommands_setPlace) 69 = .ok (.ireturn, 1) := by decide +kernel
theorem d_Commands_setPlace_70 : decode (rm_code mCommands_setPlace) 70 = .ok (.aload_n 3, 1) := by decide +kernel
theorem d_Commands_setPlace_71 : decode (rm_code mCommands_setPlace) 71 = .ok (.iload_n 2, 1) := by decide +kernel
theorem d_Commands_setPlace_72 : decode (rm_code mCommands_setPlace) 72 = .ok (.bipush (63), 2) := by decide +kernel
theorem d_Commands_setPlace_74 : decode (rm_code mCommands_setPlace) 74 = .ok (.iand, 1) := by decide +kernel
theorem d_Commands_setPlace_75 : decode (rm_code mCommands_setPlace) 75 = .ok (.putfield 243, 3) := by decide +kernel
theorem d_Commands_setPlace_78 : decode (rm_code mCommands_setPlace) 78 = .ok (.iconst 0, 1) := by decide +kernel
theorem d_Commands_setPlace_79 : decode (rm_code mCommands_setPlace) 79 = .ok (.ireturn, 1) := by decide +kernel
theorem p_Commands_setPlace_0 {S : rz_S} {K : Int32 → rz_S → Prop} (w : rz_ev mTape_startNumbers [.ref 1] S (rz_v (fun Sq1 => rz_ev mTape_nextNumber [.ref 1] Sq1 (rz_i (fun xq2 Sq2 => rz_ev mTape_nextNumber [.ref 1] Sq2 (rz_i (fun xq3 Sq3 => ((xq2 = (-1) → rz mCommands_setPlace 33 [(0, .ref 108)] [] Sq3 (rz_i K)) ∧ (¬ xq2 = (-1) → ((xq3 = (-1) → rz mCommands_setPlace 33 [(0, .ref 108)] [] Sq3 (rz_i K)) ∧ (¬ xq3 = (-1) → rz_ev mDos_buffer [.ref 39, .int xq2] Sq3 (rz_r (fun xq6 Sq6 => rz mCommands_setPlace 53 [(0, .ref 108), (2, .int xq3)] (xq6 :: []) Sq6 (rz_i K)))))))))))))) : rz mCommands_setPlace 0 [(0, .ref 108)] [] S (rz_i K) := by
  refine rz_pure (pc' := 1) d_Commands_setPlace_0 rfl ?_
  refine rz_getr d_Commands_setPlace_1 f_2_48 rfl rfl ?_
  refine rz_callVv (t := []) d_Commands_setPlace_4 w_2_227 rfl rfl rfl w (fun Sq1 q1 => ?_)
  refine rz_pure (pc' := 8) d_Commands_setPlace_7 rfl ?_
  refine rz_getr d_Commands_setPlace_8 f_2_48 rfl rfl ?_
  refine rz_callVi (t := []) d_Commands_setPlace_11 w_2_230 rfl rfl rfl q1 (fun xq2 Sq2 q2 => ?_)
  refine rz_pure (pc' := 15) (l' := [(1, .int xq2), (0, .ref 108)]) d_Commands_setPlace_14 rfl ?_
  refine rz_pure (pc' := 16) d_Commands_setPlace_15 rfl ?_
  refine rz_getr d_Commands_setPlace_16 f_2_48 rfl rfl ?_
  refine rz_callVi (t := []) d_Commands_setPlace_19 w_2_230 rfl rfl rfl q2 (fun xq3 Sq3 q3 => ?_)
  refine rz_pure (pc' := 23) (l' := [(2, .int xq3), (1, .int xq2), (0, .ref 108)]) d_Commands_setPlace_22 rfl ?_
  refine rz_pure (pc' := 24) d_Commands_setPlace_23 rfl ?_
  refine rz_iconst (v := -1) d_Commands_setPlace_24 (by decide) ?_
  refine rz_icmpeq (tgt := 33) d_Commands_setPlace_25 rfl (fun b4 => ?_) (fun b4 => ?_)
  · skip
    exact rz_pick (ks := [0]) (l := [(0, .ref 108)]) rfl rfl (by decide) rfl (q3.1 b4)
  · skip
    refine rz_pure (pc' := 29) d_Commands_setPlace_28 rfl ?_
    refine rz_iconst (v := -1) d_Commands_setPlace_29 (by decide) ?_
    refine rz_icmpne (tgt := 45) d_Commands_setPlace_30 rfl (fun b5 => ?_) (fun b5 => ?_)
    · skip
      refine rz_pure (pc' := 46) d_Commands_setPlace_45 rfl ?_
      refine rz_getr d_Commands_setPlace_46 f_2_24 rfl rfl ?_
      refine rz_pure (pc' := 50) d_Commands_setPlace_49 rfl ?_
      refine rz_callVr (t := [.int xq2]) d_Commands_setPlace_50 w_2_233 rfl rfl rfl ((q3.2 b4).2 b5) (fun xq6 Sq6 q6 => ?_)
      exact rz_pick (ks := [0, 2]) (l := [(0, .ref 108), (2, .int xq3)]) rfl rfl (by decide) rfl q6
    · skip
      exact rz_pick (ks := [0]) (l := [(0, .ref 108)]) rfl rfl (by decide) rfl ((q3.2 b4).1 b5)
theorem p_Commands_setPlace_33 {S : rz_S} {K : Int32 → rz_S → Prop} (w : rz_ev mStatus_set [.ref 3, .int 30, .int 0, .int 0] S (rz_i (fun xq1 Sq1 => K xq1 Sq1))) : rz mCommands_setPlace 33 [(0, .ref 108)] [] S (rz_i K) := by
  refine rz_pure (pc' := 34) d_Commands_setPlace_33 rfl ?_
  refine rz_getr d_Commands_setPlace_34 f_2_38 rfl rfl ?_
  refine rz_bipush (v := 30) d_Commands_setPlace_37 (by decide) ?_
  refine rz_iconst (v := 0) d_Commands_setPlace_39 (by decide) ?_
  refine rz_iconst (v := 0) d_Commands_setPlace_40 (by decide) ?_
  refine rz_callVi (t := [.int 0, .int 0, .int 30]) d_Commands_setPlace_41 w_2_73 rfl rfl rfl w (fun xq1 Sq1 q1 => ?_)
  exact rz_ireti d_Commands_setPlace_44 rfl rfl q1
theorem p_Commands_setPlace_53 {S : rz_S} {K : Int32 → rz_S → Prop} {a2 : Int32} (w : rz_ev mStatus_set [.ref 3, .int 70, .int 0, .int 0] S (rz_i (fun xq1 Sq1 => K xq1 Sq1))) : rz mCommands_setPlace 53 [(0, .ref 108), (2, .int a2)] [.null] S (rz_i K) := by
  refine rz_pure (pc' := 54) (l' := [(3, .null), (0, .ref 108), (2, .int a2)]) d_Commands_setPlace_53 rfl ?_
  refine rz_pure (pc' := 55) d_Commands_setPlace_54 rfl ?_
  refine rz_pure (pc' := 58) d_Commands_setPlace_55 rfl ?_
  refine rz_pure (pc' := 59) d_Commands_setPlace_58 rfl ?_
  refine rz_getr d_Commands_setPlace_59 f_2_38 rfl rfl ?_
  refine rz_bipush (v := 70) d_Commands_setPlace_62 (by decide) ?_
  refine rz_iconst (v := 0) d_Commands_setPlace_64 (by decide) ?_
  refine rz_iconst (v := 0) d_Commands_setPlace_65 (by decide) ?_
  refine rz_callVi (t := [.int 0, .int 0, .int 70]) d_Commands_setPlace_66 w_2_73 rfl rfl rfl w (fun xq1 Sq1 q1 => ?_)
  exact rz_ireti d_Commands_setPlace_69 rfl rfl q1
theorem p_Commands_setPlace_53' {S : rz_S} {K : Int32 → rz_S → Prop} {a2 : Int32} {s0 : Nat} (hs0 : chP s0) (w : K 0 (rz_uI S s0 2 (a2 &&& 63))) : rz mCommands_setPlace 53 [(0, .ref 108), (2, .int a2)] [.ref s0] S (rz_i K) := by
  have zs0 := chZ hs0
  refine rz_pure (pc' := 54) (l' := [(3, .ref s0), (0, .ref 108), (2, .int a2)]) d_Commands_setPlace_53 rfl ?_
  refine rz_pure (pc' := 55) d_Commands_setPlace_54 rfl ?_
  refine rz_pure (pc' := 70) d_Commands_setPlace_55 rfl ?_
  refine rz_pure (pc' := 71) d_Commands_setPlace_70 rfl ?_
  refine rz_pure (pc' := 72) d_Commands_setPlace_71 rfl ?_
  refine rz_bipush (v := 63) d_Commands_setPlace_72 (by decide) ?_
  refine rz_iand d_Commands_setPlace_74 ?_
  refine rz_puti d_Commands_setPlace_75 f_2_243 (chTP hs0) rfl rfl ?_
  refine rz_iconst (v := 0) d_Commands_setPlace_78 (by decide) ?_
  exact rz_ireti d_Commands_setPlace_79 rfl rfl w
theorem d_Commands_allocate_0 : decode (rm_code mCommands_allocate) 0 = .ok (.aload_n 0, 1) := by decide +kernel
theorem d_Commands_allocate_1 : decode (rm_code mCommands_allocate) 1 = .ok (.getfield 48, 3) := by decide +kernel
theorem d_Commands_allocate_4 : decode (rm_code mCommands_allocate) 4 = .ok (.invokevirtual 227, 3) := by decide +kernel
theorem d_Commands_allocate_7 : decode (rm_code mCommands_allocate) 7 = .ok (.aload_n 0, 1) := by decide +kernel
theorem d_Commands_allocate_8 : decode (rm_code mCommands_allocate) 8 = .ok (.getfield 48, 3) := by decide +kernel
theorem d_Commands_allocate_11 : decode (rm_code mCommands_allocate) 11 = .ok (.invokevirtual 230, 3) := by decide +kernel
theorem d_Commands_allocate_14 : decode (rm_code mCommands_allocate) 14 = .ok (.istore_n 2, 1) := by decide +kernel
theorem d_Commands_allocate_15 : decode (rm_code mCommands_allocate) 15 = .ok (.aload_n 0, 1) := by decide +kernel
theorem d_Commands_allocate_16 : decode (rm_code mCommands_allocate) 16 = .ok (.getfield 48, 3) := by decide +kernel
theorem d_Commands_allocate_19 : decode (rm_code mCommands_allocate) 19 = .ok (.invokevirtual 230, 3) := by decide +kernel
theorem d_Commands_allocate_22 : decode (rm_code mCommands_allocate) 22 = .ok (.istore_n 3, 1) := by decide +kernel
theorem d_Commands_allocate_23 : decode (rm_code mCommands_allocate) 23 = .ok (.iload_n 2, 1) := by decide +kernel
theorem d_Commands_allocate_24 : decode (rm_code mCommands_allocate) 24 = .ok (.iconst (-1), 1) := by decide +kernel
theorem d_Commands_allocate_25 : decode (rm_code mCommands_allocate) 25 = .ok (.if_icmp .eq (8), 3) := by decide +kernel
theorem d_Commands_allocate_28 : decode (rm_code mCommands_allocate) 28 = .ok (.iload_n 3, 1) := by decide +kernel
theorem d_Commands_allocate_29 : decode (rm_code mCommands_allocate) 29 = .ok (.iconst (-1), 1) := by decide +kernel
theorem d_Commands_allocate_30 : decode (rm_code mCommands_allocate) 30 = .ok (.if_icmp .ne (15), 3) := by decide +kernel
theorem d_Commands_allocate_33 : decode (rm_code mCommands_allocate) 33 = .ok (.aload_n 0, 1) := by decide +kernel
theorem d_Commands_allocate_34 : decode (rm_code mCommands_allocate) 34 = .ok (.getfield 38, 3) := by decide +kernel
theorem d_Commands_allocate_37 : decode (rm_code mCommands_allocate) 37 = .ok (.bipush (30), 2) := by decide +kernel
theorem d_Commands_allocate_39 : decode (rm_code mCommands_allocate) 39 = .ok (.iconst 0, 1) := by decide +kernel
theorem d_Commands_allocate_40 : decode (rm_code mCommands_allocate) 40 = .ok (.iconst 0, 1) := by decide +kernel
theorem d_Commands_allocate_41 : decode (rm_code mCommands_allocate) 41 = .ok (.invokevirtual 73, 3) := by decide +kernel
theorem d_Commands_allocate_44 : decode (rm_code mCommands_allocate) 44 = .ok (.ireturn, 1) := by decide +kernel
theorem d_Commands_allocate_45 : decode (rm_code mCommands_allocate) 45 = .ok (.iload_n 2, 1) := by decide +kernel
theorem d_Commands_allocate_46 : decode (rm_code mCommands_allocate) 46 = .ok (.iload_n 3, 1) := by decide +kernel
theorem d_Commands_allocate_47 : decode (rm_code mCommands_allocate) 47 = .ok (.invokestatic 202, 3) := by decide +kernel
theorem d_Commands_allocate_50 : decode (rm_code mCommands_allocate) 50 = .ok (.ifCond .ne (15), 3) := by decide +kernel
theorem d_Commands_allocate_53 : decode (rm_code mCommands_allocate) 53 = .ok (.aload_n 0, 1) := by decide +kernel
theorem d_Commands_allocate_54 : decode (rm_code mCommands_allocate) 54 = .ok (.getfield 38, 3) := by decide +kernel
theorem d_Commands_allocate_57 : decode (rm_code mCommands_allocate) 57 = .ok (.bipush (66), 2) := by decide +kernel
theorem d_Commands_allocate_59 : decode (rm_code mCommands_allocate) 59 = .ok (.iload_n 2, 1) := by decide +kernel
theorem d_Commands_allocate_60 : decode (rm_code mCommands_allocate) 60 = .ok (.iload_n 3, 1) := by decide +kernel
theorem d_Commands_allocate_61 : decode (rm_code mCommands_allocate) 61 = .ok (.invokevirtual 73, 3) := by decide +kernel
theorem d_Commands_allocate_64 : decode (rm_code mCommands_allocate) 64 = .ok (.ireturn, 1) := by decide +kernel
theorem d_Commands_allocate_65 : decode (rm_code mCommands_allocate) 65 = .ok (.aload_n 0, 1) := by decide +kernel
theorem d_Commands_allocate_66 : decode (rm_code mCommands_allocate) 66 = .ok (.getfield 53, 3) := by decide +kernel
theorem d_Commands_allocate_69 : decode (rm_code mCommands_allocate) 69 = .ok (.invokevirtual 175, 3) := by decide +kernel
theorem d_Commands_allocate_72 : decode (rm_code mCommands_allocate) 72 = .ok (.istore 4, 2) := by decide +kernel
theorem d_Commands_allocate_74 : decode (rm_code mCommands_allocate) 74 = .ok (.iload 4, 2) := by decide +kernel
theorem d_Commands_allocate_76 : decode (rm_code mCommands_allocate) 76 = .ok (.ifCond .eq (6), 3) := by decide +kernel
theorem d_Commands_allocate_79 : decode (rm_code mCommands_allocate) 79 = .ok (.iload 4, 2) := by decide +kernel
theorem d_Commands_allocate_81 : decode (rm_code mCommands_allocate) 81 = .ok (.ireturn, 1) := by decide +kernel
theorem d_Commands_allocate_82 : decode (rm_code mCommands_allocate) 82 = .ok (.iload_n 1, 1) := by decide +kernel
theorem d_Commands_allocate_83 : decode (rm_code mCommands_allocate) 83 = .ok (.ifCond .eq (22), 3) := by decide +kernel
theorem d_Commands_allocate_86 : decode (rm_code mCommands_allocate) 86 = .ok (.aload_n 0, 1) := by decide +kernel
theorem d_Commands_allocate_87 : decode (rm_code mCommands_allocate) 87 = .ok (.getfield 53, 3) := by decide +kernel
theorem d_Commands_allocate_90 : decode (rm_code mCommands_allocate) 90 = .ok (.iload_n 2, 1) := by decide +kernel
theorem d_Commands_allocate_91 : decode (rm_code mCommands_allocate) 91 = .ok (.iload_n 3, 1) := by decide +kernel
theorem d_Commands_allocate_92 : decode (rm_code mCommands_allocate) 92 = .ok (.invokevirtual 214, 3) := by decide +kernel
theorem d_Commands_allocate_95 : decode (rm_code mCommands_allocate) 95 = .ok (.ifCond .ne (10), 3) := by decide +kernel
theorem d_Commands_allocate_98 : decode (rm_code mCommands_allocate) 98 = .ok (.aload_n 0, 1) := by decide +kernel
theorem d_Commands_allocate_99 : decode (rm_code mCommands_allocate) 99 = .ok (.iload_n 2, 1) := by decide +kernel
theorem d_Commands_allocate_100 : decode (rm_code mCommands_allocate) 100 = .ok (.iload_n 3, 1) := by decide +kernel
theorem d_Commands_allocate_101 : decode (rm_code mCommands_allocate) 101 = .ok (.invokevirtual 252, 3) := by decide +kernel
theorem d_Commands_allocate_104 : decode (rm_code mCommands_allocate) 104 = .ok (.ireturn, 1) := by decide +kernel
theorem d_Commands_allocate_105 : decode (rm_code mCommands_allocate) 105 = .ok (.iload_n 1, 1) := by decide +kernel
theorem d_Commands_allocate_106 : decode (rm_code mCommands_allocate) 106 = .ok (.ifCond .eq (15), 3) := by decide +kernel
theorem d_Commands_allocate_109 : decode (rm_code mCommands_allocate) 109 = .ok (.aload_n 0, 1) := by decide +kernel
theorem d_Commands_allocate_110 : decode (rm_code mCommands_allocate) 110 = .ok (.getfield 53, 3) := by decide +kernel
theorem d_Commands_allocate_113 : decode (rm_code mCommands_allocate) 113 = .ok (.iload_n 2, 1) := by decide +kernel
theorem d_Commands_allocate_114 : decode (rm_code mCommands_allocate) 114 = .ok (.iload_n 3, 1) := by decide +kernel
theorem d_Commands_allocate_115 : decode (rm_code mCommands_allocate) 115 = .ok (.invokevirtual 181, 3) := by decide +kernel
theorem d_Commands_allocate_118 : decode (rm_code mCommands_allocate) 118 = .ok (.goto (12), 3) := by decide +kernel
theorem d_Commands_allocate_121 : decode (rm_code mCommands_allocate) 121 = .ok (.aload_n 0, 1) := by decide +kernel
theorem d_Commands_allocate_122 : decode (rm_code mCommands_allocate) 122 = .ok (.getfield 53, 3) := by decide +kernel
theorem d_Commands_allocate_125 : decode (rm_code mCommands_allocate) 125 = .ok (.iload_n 2, 1) := by decide +kernel
theorem d_Commands_allocate_126 : decode (rm_code mCommands_allocate) 126 = .ok (.iload_n 3, 1) := by decide +kernel
theorem d_Commands_allocate_127 : decode (rm_code mCommands_allocate) 127 = .ok (.invokevirtual 255, 3) := by decide +kernel
theorem d_Commands_allocate_130 : decode (rm_code mCommands_allocate) 130 = .ok (.aload_n 0, 1) := by decide +kernel
theorem d_Commands_allocate_131 : decode (rm_code mCommands_allocate) 131 = .ok (.getfield 53, 3) := by decide +kernel
theorem d_Commands_allocate_134 : decode (rm_code mCommands_allocate) 134 = .ok (.invokevirtual 140, 3) := by decide +kernel
theorem d_Commands_allocate_137 : decode (rm_code mCommands_allocate) 137 = .ok (.ireturn, 1) := by decide +kernel
theorem p_Commands_allocate_0 {S : rz_S} {K : Int32 → rz_S → Prop} {a1 : Int32} (w : rz_ev mTape_startNumbers [.ref 1] S (rz_v (fun Sq1 => rz_ev mTape_nextNumber [.ref 1] Sq1 (rz_i (fun xq2 Sq2 => rz_ev mTape_nextNumber [.ref 1] Sq2 (rz_i (fun xq3 Sq3 => ((xq2 = (-1) → rz mCommands_allocate 33 [(0, .ref 108)] [] Sq3 (rz_i K)) ∧ (¬ xq2 = (-1) → ((xq3 = (-1) → rz mCommands_allocate 33 [(0, .ref 108)] [] Sq3 (rz_i K)) ∧ (¬ xq3 = (-1) → rz_ev mDisk_isLegal [.int xq2, .int xq3] Sq3 (rz_i (fun xq6 Sq6 => ((xq6 = 0 → rz_ev mStatus_set [.ref 3, .int 66, .int xq2, .int xq3] Sq6 (rz_i (fun xq14 Sq14 => K xq14 Sq14))) ∧ (¬ xq6 = 0 → rz_ev mBlockMap_load [.ref 44] Sq6 (rz_i (fun xq8 Sq8 => ((xq8 = 0 → ((a1 = 0 → rz mCommands_allocate 105 [(0, .ref 108), (1, .int a1), (2, .int xq2), (3, .int xq3)] [] Sq8 (rz_i K)) ∧ (¬ a1 = 0 → rz_ev mBlockMap_isFree [.ref 44, .int xq2, .int xq3] Sq8 (rz_i (fun xq11 Sq11 => ((xq11 = 0 → rz_ev mCommands_tellNextFree [.ref 108, .int xq2, .int xq3] Sq11 (rz_i (fun xq13 Sq13 => K xq13 Sq13))) ∧ (¬ xq11 = 0 → rz mCommands_allocate 105 [(0, .ref 108), (1, .int a1), (2, .int xq2), (3, .int xq3)] [] Sq11 (rz_i K)))))))) ∧ (¬ xq8 = 0 → K xq8 Sq8))))))))))))))))))) : rz mCommands_allocate 0 [(0, .ref 108), (1, .int a1)] [] S (rz_i K) := by
  refine rz_pure (pc' := 1) d_Commands_allocate_0 rfl ?_
  refine rz_getr d_Commands_allocate_1 f_2_48 rfl rfl ?_
  refine rz_callVv (t := []) d_Commands_allocate_4 w_2_227 rfl rfl rfl w (fun Sq1 q1 => ?_)
  refine rz_pure (pc' := 8) d_Commands_allocate_7 rfl ?_
  refine rz_getr d_Commands_allocate_8 f_2_48 rfl rfl ?_
  refine rz_callVi (t := []) d_Commands_allocate_11 w_2_230 rfl rfl rfl q1 (fun xq2 Sq2 q2 => ?_)
  refine rz_pure (pc' := 15) (l' := [(2, .int xq2), (0, .ref 108), (1, .int a1)]) d_Commands_allocate_14 rfl ?_
  refine rz_pure (pc' := 16) d_Commands_allocate_15 rfl ?_
  refine rz_getr d_Commands_allocate_16 f_2_48 rfl rfl ?_
  refine rz_callVi (t := []) d_Commands_allocate_19 w_2_230 rfl rfl rfl q2 (fun xq3 Sq3 q3 => ?_)
  refine rz_pure (pc' := 23) (l' := [(3, .int xq3), (2, .int xq2), (0, .ref 108), (1, .int a1)]) d_Commands_allocate_22 rfl ?_
  refine rz_pure (pc' := 24) d_Commands_allocate_23 rfl ?_
  refine rz_iconst (v := -1) d_Commands_allocate_24 (by decide) ?_
  refine rz_icmpeq (tgt := 33) d_Commands_allocate_25 rfl (fun b4 => ?_) (fun b4 => ?_)
  · skip
    exact rz_pick (ks := [0]) (l := [(0, .ref 108)]) rfl rfl (by decide) rfl (q3.1 b4)
  · skip
    refine rz_pure (pc' := 29) d_Commands_allocate_28 rfl ?_
    refine rz_iconst (v := -1) d_Commands_allocate_29 (by decide) ?_
    refine rz_icmpne (tgt := 45) d_Commands_allocate_30 rfl (fun b5 => ?_) (fun b5 => ?_)
    · skip
      refine rz_pure (pc' := 46) d_Commands_allocate_45 rfl ?_
      refine rz_pure (pc' := 47) d_Commands_allocate_46 rfl ?_
      refine rz_callSi (t := [.int xq3, .int xq2]) d_Commands_allocate_47 rfl w_2_202 rfl rfl ((q3.2 b4).2 b5) (fun xq6 Sq6 q6 => ?_)
      refine rz_ifne (tgt := 65) d_Commands_allocate_50 rfl (fun b7 => ?_) (fun b7 => ?_)
      · skip
        refine rz_pure (pc' := 66) d_Commands_allocate_65 rfl ?_
        refine rz_getr d_Commands_allocate_66 f_2_53 rfl rfl ?_
        refine rz_callVi (t := []) d_Commands_allocate_69 w_2_175 rfl rfl rfl (q6.2 b7) (fun xq8 Sq8 q8 => ?_)
        refine rz_pure (pc' := 74) (l' := [(4, .int xq8), (3, .int xq3), (2, .int xq2), (0, .ref 108), (1, .int a1)]) d_Commands_allocate_72 rfl ?_
        refine rz_pure (pc' := 76) d_Commands_allocate_74 rfl ?_
        refine rz_ifeq (tgt := 82) d_Commands_allocate_76 rfl (fun b9 => ?_) (fun b9 => ?_)
        · skip
          refine rz_pure (pc' := 83) d_Commands_allocate_82 rfl ?_
          refine rz_ifeq (tgt := 105) d_Commands_allocate_83 rfl (fun b10 => ?_) (fun b10 => ?_)
          · skip
            exact rz_pick (ks := [0, 1, 2, 3]) (l := [(0, .ref 108), (1, .int a1), (2, .int xq2), (3, .int xq3)]) rfl rfl (by decide) rfl ((q8.1 b9).1 b10)
          · skip
            refine rz_pure (pc' := 87) d_Commands_allocate_86 rfl ?_
            refine rz_getr d_Commands_allocate_87 f_2_53 rfl rfl ?_
            refine rz_pure (pc' := 91) d_Commands_allocate_90 rfl ?_
            refine rz_pure (pc' := 92) d_Commands_allocate_91 rfl ?_
            refine rz_callVi (t := [.int xq3, .int xq2]) d_Commands_allocate_92 w_2_214 rfl rfl rfl ((q8.1 b9).2 b10) (fun xq11 Sq11 q11 => ?_)
            refine rz_ifne (tgt := 105) d_Commands_allocate_95 rfl (fun b12 => ?_) (fun b12 => ?_)
            · skip
              exact rz_pick (ks := [0, 1, 2, 3]) (l := [(0, .ref 108), (1, .int a1), (2, .int xq2), (3, .int xq3)]) rfl rfl (by decide) rfl (q11.2 b12)
            · skip
              refine rz_pure (pc' := 99) d_Commands_allocate_98 rfl ?_
              refine rz_pure (pc' := 100) d_Commands_allocate_99 rfl ?_
              refine rz_pure (pc' := 101) d_Commands_allocate_100 rfl ?_
              refine rz_callVi (t := [.int xq3, .int xq2]) d_Commands_allocate_101 w_2_252 rfl rfl rfl (q11.1 b12) (fun xq13 Sq13 q13 => ?_)
              exact rz_ireti d_Commands_allocate_104 rfl rfl q13
        · skip
          refine rz_pure (pc' := 81) d_Commands_allocate_79 rfl ?_
          exact rz_ireti d_Commands_allocate_81 rfl rfl (q8.2 b9)
      · skip
        refine rz_pure (pc' := 54) d_Commands_allocate_53 rfl ?_
        refine rz_getr d_Commands_allocate_54 f_2_38 rfl rfl ?_
        refine rz_bipush (v := 66) d_Commands_allocate_57 (by decide) ?_
        refine rz_pure (pc' := 60) d_Commands_allocate_59 rfl ?_
        refine rz_pure (pc' := 61) d_Commands_allocate_60 rfl ?_
        refine rz_callVi (t := [.int xq3, .int xq2, .int 66]) d_Commands_allocate_61 w_2_73 rfl rfl rfl (q6.1 b7) (fun xq14 Sq14 q14 => ?_)
        exact rz_ireti d_Commands_allocate_64 rfl rfl q14
    · skip
      exact rz_pick (ks := [0]) (l := [(0, .ref 108)]) rfl rfl (by decide) rfl ((q3.2 b4).1 b5)
theorem p_Commands_allocate_33 {S : rz_S} {K : Int32 → rz_S → Prop} (w : rz_ev mStatus_set [.ref 3, .int 30, .int 0, .int 0] S (rz_i (fun xq1 Sq1 => K xq1 Sq1))) : rz mCommands_allocate 33 [(0, .ref 108)] [] S (rz_i K) := by
  refine rz_pure (pc' := 34) d_Commands_allocate_33 rfl ?_
  refine rz_getr d_Commands_allocate_34 f_2_38 rfl rfl ?_
  refine rz_bipush (v := 30) d_Commands_allocate_37 (by decide) ?_
  refine rz_iconst (v := 0) d_Commands_allocate_39 (by decide) ?_
  refine rz_iconst (v := 0) d_Commands_allocate_40 (by decide) ?_
  refine rz_callVi (t := [.int 0, .int 0, .int 30]) d_Commands_allocate_41 w_2_73 rfl rfl rfl w (fun xq1 Sq1 q1 => ?_)
  exact rz_ireti d_Commands_allocate_44 rfl rfl q1
theorem p_Commands_allocate_105 {S : rz_S} {K : Int32 → rz_S → Prop} {a1 : Int32} {a2 : Int32} {a3 : Int32} (w : ((a1 = 0 → rz_ev mBlockMap_giveBack [.ref 44, .int a2, .int a3] S (rz_v (fun Sq2 => rz mCommands_allocate 130 [(0, .ref 108)] [] Sq2 (rz_i K)))) ∧ (¬ a1 = 0 → rz_ev mBlockMap_takeBlock [.ref 44, .int a2, .int a3] S (rz_v (fun Sq3 => rz mCommands_allocate 130 [(0, .ref 108)] [] Sq3 (rz_i K)))))) : rz mCommands_allocate 105 [(0, .ref 108), (1, .int a1), (2, .int a2), (3, .int a3)] [] S (rz_i K) := by
  refine rz_pure (pc' := 106) d_Commands_allocate_105 rfl ?_
  refine rz_ifeq (tgt := 121) d_Commands_allocate_106 rfl (fun b1 => ?_) (fun b1 => ?_)
  · skip
    refine rz_pure (pc' := 122) d_Commands_allocate_121 rfl ?_
    refine rz_getr d_Commands_allocate_122 f_2_53 rfl rfl ?_
    refine rz_pure (pc' := 126) d_Commands_allocate_125 rfl ?_
    refine rz_pure (pc' := 127) d_Commands_allocate_126 rfl ?_
    refine rz_callVv (t := [.int a3, .int a2]) d_Commands_allocate_127 w_2_255 rfl rfl rfl (w.1 b1) (fun Sq2 q2 => ?_)
    exact rz_pick (ks := [0]) (l := [(0, .ref 108)]) rfl rfl (by decide) rfl q2
  · skip
    refine rz_pure (pc' := 110) d_Commands_allocate_109 rfl ?_
    refine rz_getr d_Commands_allocate_110 f_2_53 rfl rfl ?_
    refine rz_pure (pc' := 114) d_Commands_allocate_113 rfl ?_
    refine rz_pure (pc' := 115) d_Commands_allocate_114 rfl ?_
    refine rz_callVv (t := [.int a3, .int a2]) d_Commands_allocate_115 w_2_181 rfl rfl rfl (w.2 b1) (fun Sq3 q3 => ?_)
    refine rz_pure (pc' := 130) d_Commands_allocate_118 rfl ?_
    exact rz_pick (ks := [0]) (l := [(0, .ref 108)]) rfl rfl (by decide) rfl q3
theorem p_Commands_allocate_130 {S : rz_S} {K : Int32 → rz_S → Prop} (w : rz_ev mBlockMap_store [.ref 44] S (rz_i (fun xq1 Sq1 => K xq1 Sq1))) : rz mCommands_allocate 130 [(0, .ref 108)] [] S (rz_i K) := by
  refine rz_pure (pc' := 131) d_Commands_allocate_130 rfl ?_
  refine rz_getr d_Commands_allocate_131 f_2_53 rfl rfl ?_
  refine rz_callVi (t := []) d_Commands_allocate_134 w_2_140 rfl rfl rfl w (fun xq1 Sq1 q1 => ?_)
  exact rz_ireti d_Commands_allocate_137 rfl rfl q1
theorem d_Commands_tellNextFree_0 : decode (rm_code mCommands_tellNextFree) 0 = .ok (.iload_n 2, 1) := by decide +kernel
theorem d_Commands_tellNextFree_1 : decode (rm_code mCommands_tellNextFree) 1 = .ok (.iconst 1, 1) := by decide +kernel
theorem d_Commands_tellNextFree_2 : decode (rm_code mCommands_tellNextFree) 2 = .ok (.iadd, 1) := by decide +kernel
theorem d_Commands_tellNextFree_3 : decode (rm_code mCommands_tellNextFree) 3 = .ok (.istore_n 3, 1) := by decide +kernel
theorem d_Commands_tellNextFree_4 : decode (rm_code mCommands_tellNextFree) 4 = .ok (.iload_n 1, 1) := by decide +kernel
theorem d_Commands_tellNextFree_5 : decode (rm_code mCommands_tellNextFree) 5 = .ok (.istore 4, 2) := by decide +kernel
theorem d_Commands_tellNextFree_7 : decode (rm_code mCommands_tellNextFree) 7 = .ok (.iload 4, 2) := by decide +kernel
theorem d_Commands_tellNextFree_9 : decode (rm_code mCommands_tellNextFree) 9 = .ok (.bipush (12), 2) := by decide +kernel
theorem d_Commands_tellNextFree_11 : decode (rm_code mCommands_tellNextFree) 11 = .ok (.if_icmp .gt (58), 3) := by decide +kernel
theorem d_Commands_tellNextFree_14 : decode (rm_code mCommands_tellNextFree) 14 = .ok (.iload_n 3, 1) := by decide +kernel
theorem d_Commands_tellNextFree_15 : decode (rm_code mCommands_tellNextFree) 15 = .ok (.istore 5, 2) := by decide +kernel
theorem d_Commands_tellNextFree_17 : decode (rm_code mCommands_tellNextFree) 17 = .ok (.iload 5, 2) := by decide +kernel
theorem d_Commands_tellNextFree_19 : decode (rm_code mCommands_tellNextFree) 19 = .ok (.iload 4, 2) := by decide +kernel
theorem d_Commands_tellNextFree_21 : decode (rm_code mCommands_tellNextFree) 21 = .ok (.invokestatic 258, 3) := by decide +kernel
theorem d_Commands_tellNextFree_24 : decode (rm_code mCommands_tellNextFree) 24 = .ok (.if_icmp .ge (37), 3) := by decide +kernel
theorem d_Commands_tellNextFree_27 : decode (rm_code mCommands_tellNextFree) 27 = .ok (.aload_n 0, 1) := by decide +kernel
theorem d_Commands_tellNextFree_28 : decode (rm_code mCommands_tellNextFree) 28 = .ok (.getfield 53, 3) := by decide +kernel
theorem d_Commands_tellNextFree_31 : decode (rm_code mCommands_tellNextFree) 31 = .ok (.iload 4, 2) := by decide +kernel
theorem d_Commands_tellNextFree_33 : decode (rm_code mCommands_tellNextFree) 33 = .ok (.iload 5, 2) := by decide +kernel
theorem d_Commands_tellNextFree_35 : decode (rm_code mCommands_tellNextFree) 35 = .ok (.invokevirtual 214, 3) := by decide +kernel
theorem d_Commands_tellNextFree_38 : decode (rm_code mCommands_tellNextFree) 38 = .ok (.ifCond .eq (17), 3) := by decide +kernel
theorem d_Commands_tellNextFree_41 : decode (rm_code mCommands_tellNextFree) 41 = .ok (.aload_n 0, 1) := by decide +kernel
theorem d_Commands_tellNextFree_42 : decode (rm_code mCommands_tellNextFree) 42 = .ok (.getfield 38, 3) := by decide +kernel
theorem d_Commands_tellNextFree_45 : decode (rm_code mCommands_tellNextFree) 45 = .ok (.bipush (65), 2) := by decide +kernel
theorem d_Commands_tellNextFree_47 : decode (rm_code mCommands_tellNextFree) 47 = .ok (.iload 4, 2) := by decide +kernel
theorem d_Commands_tellNextFree_49 : decode (rm_code mCommands_tellNextFree) 49 = .ok (.iload 5, 2) := by decide +kernel
theorem d_Commands_tellNextFree_51 : decode (rm_code mCommands_tellNextFree) 51 = .ok (.invokevirtual 73, 3) := by decide +kernel
theorem d_Commands_tellNextFree_54 : decode (rm_code mCommands_tellNextFree) 54 = .ok (.ireturn, 1) := by decide +kernel
theorem d_Commands_tellNextFree_55 : decode (rm_code mCommands_tellNextFree) 55 = .ok (.iinc 5 (1), 3) := by decide +kernel
theorem d_Commands_tellNextFree_58 : decode (rm_code mCommands_tellNextFree) 58 = .ok (.goto (-41), 3) := by decide +kernel
theorem d_Commands_tellNextFree_61 : decode (rm_code mCommands_tellNextFree) 61 = .ok (.iconst 0, 1) := by decide +kernel
theorem d_Commands_tellNextFree_62 : decode (rm_code mCommands_tellNextFree) 62 = .ok (.istore_n 3, 1) := by decide +kernel
theorem d_Commands_tellNextFree_63 : decode (rm_code mCommands_tellNextFree) 63 = .ok (.iinc 4 (1), 3) := by decide +kernel
theorem d_Commands_tellNextFree_66 : decode (rm_code mCommands_tellNextFree) 66 = .ok (.goto (-59), 3) := by decide +kernel
theorem d_Commands_tellNextFree_69 : decode (rm_code mCommands_tellNextFree) 69 = .ok (.aload_n 0, 1) := by decide +kernel
theorem d_Commands_tellNextFree_70 : decode (rm_code mCommands_tellNextFree) 70 = .ok (.getfield 38, 3) := by decide +kernel
theorem d_Commands_tellNextFree_73 : decode (rm_code mCommands_tellNextFree) 73 = .ok (.bipush (65), 2) := by decide +kernel
theorem d_Commands_tellNextFree_75 : decode (rm_code mCommands_tellNextFree) 75 = .ok (.iconst 0, 1) := by decide +kernel
theorem d_Commands_tellNextFree_76 : decode (rm_code mCommands_tellNextFree) 76 = .ok (.iconst 0, 1) := by decide +kernel
theorem d_Commands_tellNextFree_77 : decode (rm_code mCommands_tellNextFree) 77 = .ok (.invokevirtual 73, 3) := by decide +kernel
theorem d_Commands_tellNextFree_80 : decode (rm_code mCommands_tellNextFree) 80 = .ok (.ireturn, 1) := by decide +kernel
theorem p_Commands_tellNextFree_0 {S : rz_S} {K : Int32 → rz_S → Prop} {a1 : Int32} {a2 : Int32} (w : rz mCommands_tellNextFree 7 [(0, .ref 108), (3, .int (a2 + 1)), (4, .int a1)] [] S (rz_i K)) : rz mCommands_tellNextFree 0 [(0, .ref 108), (1, .int a1), (2, .int a2)] [] S (rz_i K) := by
  refine rz_pure (pc' := 1) d_Commands_tellNextFree_0 rfl ?_
  refine rz_iconst (v := 1) d_Commands_tellNextFree_1 (by decide) ?_
  refine rz_iadd d_Commands_tellNextFree_2 ?_
  refine rz_pure (pc' := 4) (l' := [(3, .int (a2 + 1)), (0, .ref 108), (1, .int a1), (2, .int a2)]) d_Commands_tellNextFree_3 rfl ?_
  refine rz_pure (pc' := 5) d_Commands_tellNextFree_4 rfl ?_
  refine rz_pure (pc' := 7) (l' := [(4, .int a1), (3, .int (a2 + 1)), (0, .ref 108), (1, .int a1), (2, .int a2)]) d_Commands_tellNextFree_5 rfl ?_
  exact rz_pick (ks := [0, 3, 4]) (l := [(0, .ref 108), (3, .int (a2 + 1)), (4, .int a1)]) rfl rfl (by decide) rfl w
theorem p_Commands_tellNextFree_7 {S : rz_S} {K : Int32 → rz_S → Prop} {a3 : Int32} {a4 : Int32} (w : ((12 < a4 → rz_ev mStatus_set [.ref 3, .int 65, .int 0, .int 0] S (rz_i (fun xq2 Sq2 => K xq2 Sq2))) ∧ (¬ 12 < a4 → rz mCommands_tellNextFree 17 [(0, .ref 108), (4, .int a4), (5, .int a3)] [] S (rz_i K)))) : rz mCommands_tellNextFree 7 [(0, .ref 108), (3, .int a3), (4, .int a4)] [] S (rz_i K) := by
  refine rz_pure (pc' := 9) d_Commands_tellNextFree_7 rfl ?_
  refine rz_bipush (v := 12) d_Commands_tellNextFree_9 (by decide) ?_
  refine rz_icmpgt (tgt := 69) d_Commands_tellNextFree_11 rfl (fun b1 => ?_) (fun b1 => ?_)
  · skip
    refine rz_pure (pc' := 70) d_Commands_tellNextFree_69 rfl ?_
    refine rz_getr d_Commands_tellNextFree_70 f_2_38 rfl rfl ?_
    refine rz_bipush (v := 65) d_Commands_tellNextFree_73 (by decide) ?_
    refine rz_iconst (v := 0) d_Commands_tellNextFree_75 (by decide) ?_
    refine rz_iconst (v := 0) d_Commands_tellNextFree_76 (by decide) ?_
    refine rz_callVi (t := [.int 0, .int 0, .int 65]) d_Commands_tellNextFree_77 w_2_73 rfl rfl rfl (w.1 b1) (fun xq2 Sq2 q2 => ?_)
    exact rz_ireti d_Commands_tellNextFree_80 rfl rfl q2
  · skip
    refine rz_pure (pc' := 15) d_Commands_tellNextFree_14 rfl ?_
    refine rz_pure (pc' := 17) (l' := [(5, .int a3), (0, .ref 108), (3, .int a3), (4, .int a4)]) d_Commands_tellNextFree_15 rfl ?_
    exact rz_pick (ks := [0, 4, 5]) (l := [(0, .ref 108), (4, .int a4), (5, .int a3)]) rfl rfl (by decide) rfl (w.2 b1)
theorem p_Commands_tellNextFree_17 {S : rz_S} {K : Int32 → rz_S → Prop} {a4 : Int32} {a5 : Int32} (w : rz_ev mDisk_sectorsOf [.int a4] S (rz_i (fun xq1 Sq1 => ((xq1 ≤ a5 → rz mCommands_tellNextFree 7 [(0, .ref 108), (3, .int 0), (4, .int (a4 + 1))] [] Sq1 (rz_i K)) ∧ (¬ xq1 ≤ a5 → rz_ev mBlockMap_isFree [.ref 44, .int a4, .int a5] Sq1 (rz_i (fun xq3 Sq3 => ((xq3 = 0 → rz mCommands_tellNextFree 17 [(0, .ref 108), (4, .int a4), (5, .int (a5 + 1))] [] Sq3 (rz_i K)) ∧ (¬ xq3 = 0 → rz_ev mStatus_set [.ref 3, .int 65, .int a4, .int a5] Sq3 (rz_i (fun xq5 Sq5 => K xq5 Sq5))))))))))) : rz mCommands_tellNextFree 17 [(0, .ref 108), (4, .int a4), (5, .int a5)] [] S (rz_i K) := by
  refine rz_pure (pc' := 19) d_Commands_tellNextFree_17 rfl ?_
  refine rz_pure (pc' := 21) d_Commands_tellNextFree_19 rfl ?_
  refine rz_callSi (t := [.int a4]) d_Commands_tellNextFree_21 rfl w_2_258 rfl rfl w (fun xq1 Sq1 q1 => ?_)
  refine rz_icmpge (tgt := 61) d_Commands_tellNextFree_24 rfl (fun b2 => ?_) (fun b2 => ?_)
  · skip
    refine rz_iconst (v := 0) d_Commands_tellNextFree_61 (by decide) ?_
    refine rz_pure (pc' := 63) (l' := [(3, .int 0), (0, .ref 108), (4, .int a4), (5, .int a5)]) d_Commands_tellNextFree_62 rfl ?_
    refine rz_pure (pc' := 66) (l' := [(4, .int (a4 + 1)), (3, .int 0), (0, .ref 108), (5, .int a5)]) d_Commands_tellNextFree_63 rfl ?_
    refine rz_pure (pc' := 7) d_Commands_tellNextFree_66 rfl ?_
    exact rz_pick (ks := [0, 3, 4]) (l := [(0, .ref 108), (3, .int 0), (4, .int (a4 + 1))]) rfl rfl (by decide) rfl (q1.1 b2)
  · skip
    refine rz_pure (pc' := 28) d_Commands_tellNextFree_27 rfl ?_
    refine rz_getr d_Commands_tellNextFree_28 f_2_53 rfl rfl ?_
    refine rz_pure (pc' := 33) d_Commands_tellNextFree_31 rfl ?_
    refine rz_pure (pc' := 35) d_Commands_tellNextFree_33 rfl ?_
    refine rz_callVi (t := [.int a5, .int a4]) d_Commands_tellNextFree_35 w_2_214 rfl rfl rfl (q1.2 b2) (fun xq3 Sq3 q3 => ?_)
    refine rz_ifeq (tgt := 55) d_Commands_tellNextFree_38 rfl (fun b4 => ?_) (fun b4 => ?_)
    · skip
      refine rz_pure (pc' := 58) (l' := [(5, .int (a5 + 1)), (0, .ref 108), (4, .int a4)]) d_Commands_tellNextFree_55 rfl ?_
      refine rz_pure (pc' := 17) d_Commands_tellNextFree_58 rfl ?_
      exact rz_pick (ks := [0, 4, 5]) (l := [(0, .ref 108), (4, .int a4), (5, .int (a5 + 1))]) rfl rfl (by decide) rfl (q3.1 b4)
    · skip
      refine rz_pure (pc' := 42) d_Commands_tellNextFree_41 rfl ?_
      refine rz_getr d_Commands_tellNextFree_42 f_2_38 rfl rfl ?_
      refine rz_bipush (v := 65) d_Commands_tellNextFree_45 (by decide) ?_
      refine rz_pure (pc' := 49) d_Commands_tellNextFree_47 rfl ?_
      refine rz_pure (pc' := 51) d_Commands_tellNextFree_49 rfl ?_
      refine rz_callVi (t := [.int a5, .int a4, .int 65]) d_Commands_tellNextFree_51 w_2_73 rfl rfl rfl (q3.2 b4) (fun xq5 Sq5 q5 => ?_)
      exact rz_ireti d_Commands_tellNextFree_54 rfl rfl q5
theorem d_Commands_program_0 : decode (rm_code mCommands_program) 0 = .ok (.aload_n 0, 1) := by decide +kernel
theorem d_Commands_program_1 : decode (rm_code mCommands_program) 1 = .ok (.iconst 3, 1) := by decide +kernel
theorem d_Commands_program_2 : decode (rm_code mCommands_program) 2 = .ok (.invokevirtual 261, 3) := by decide +kernel
theorem d_Commands_program_5 : decode (rm_code mCommands_program) 5 = .ok (.sipush (256), 3) := by decide +kernel
theorem d_Commands_program_8 : decode (rm_code mCommands_program) 8 = .ok (.aload_n 0, 1) := by decide +kernel
theorem d_Commands_program_9 : decode (rm_code mCommands_program) 9 = .ok (.iconst 4, 1) := by decide +kernel
theorem d_Commands_program_10 : decode (rm_code mCommands_program) 10 = .ok (.invokevirtual 261, 3) := by decide +kernel
theorem d_Commands_program_13 : decode (rm_code mCommands_program) 13 = .ok (.imul, 1) := by decide +kernel
theorem d_Commands_program_14 : decode (rm_code mCommands_program) 14 = .ok (.iadd, 1) := by decide +kernel
theorem d_Commands_program_15 : decode (rm_code mCommands_program) 15 = .ok (.istore_n 1, 1) := by decide +kernel
theorem d_Commands_program_16 : decode (rm_code mCommands_program) 16 = .ok (.aload_n 0, 1) := by decide +kernel
theorem d_Commands_program_17 : decode (rm_code mCommands_program) 17 = .ok (.iconst 5, 1) := by decide +kernel
theorem d_Commands_program_18 : decode (rm_code mCommands_program) 18 = .ok (.invokevirtual 261, 3) := by decide +kernel
theorem d_Commands_program_21 : decode (rm_code mCommands_program) 21 = .ok (.istore_n 2, 1) := by decide +kernel
theorem d_Commands_program_22 : decode (rm_code mCommands_program) 22 = .ok (.aload_n 0, 1) := by decide +kernel
theorem d_Commands_program_23 : decode (rm_code mCommands_program) 23 = .ok (.getfield 48, 3) := by decide +kernel
theorem d_Commands_program_26 : decode (rm_code mCommands_program) 26 = .ok (.iconst 2, 1) := by decide +kernel
theorem d_Commands_program_27 : decode (rm_code mCommands_program) 27 = .ok (.invokevirtual 77, 3) := by decide +kernel
theorem d_Commands_program_30 : decode (rm_code mCommands_program) 30 = .ok (.lookupswitch (160) #[((69), (131)), ((82), (81)), ((87), (34))], 34) := by decide +kernel
theorem d_Commands_program_64 : decode (rm_code mCommands_program) 64 = .ok (.iconst 0, 1) := by decide +kernel
theorem d_Commands_program_65 : decode (rm_code mCommands_program) 65 = .ok (.istore_n 3, 1) := by decide +kernel
theorem d_Commands_program_66 : decode (rm_code mCommands_program) 66 = .ok (.iload_n 3, 1) := by decide +kernel
theorem d_Commands_program_67 : decode (rm_code mCommands_program) 67 = .ok (.iload_n 2, 1) := by decide +kernel
theorem d_Commands_program_68 : decode (rm_code mCommands_program) 68 = .ok (.if_icmp .ge (41), 3) := by decide +kernel
theorem d_Commands_program_71 : decode (rm_code mCommands_program) 71 = .ok (.bipush (6), 2) := by decide +kernel
theorem d_Commands_program_73 : decode (rm_code mCommands_program) 73 = .ok (.iload_n 3, 1) := by decide +kernel
theorem d_Commands_program_74 : decode (rm_code mCommands_program) 74 = .ok (.iadd, 1) := by decide +kernel
theorem d_Commands_program_75 : decode (rm_code mCommands_program) 75 = .ok (.aload_n 0, 1) := by decide +kernel
theorem d_Commands_program_76 : decode (rm_code mCommands_program) 76 = .ok (.getfield 48, 3) := by decide +kernel
theorem d_Commands_program_79 : decode (rm_code mCommands_program) 79 = .ok (.getfield 62, 3) := by decide +kernel
theorem d_Commands_program_82 : decode (rm_code mCommands_program) 82 = .ok (.if_icmp .ge (27), 3) := by decide +kernel
theorem d_Commands_program_85 : decode (rm_code mCommands_program) 85 = .ok (.aload_n 0, 1) := by decide +kernel
theorem d_Commands_program_86 : decode (rm_code mCommands_program) 86 = .ok (.getfield 28, 3) := by decide +kernel
theorem d_Commands_program_89 : decode (rm_code mCommands_program) 89 = .ok (.iload_n 1, 1) := by decide +kernel
theorem d_Commands_program_90 : decode (rm_code mCommands_program) 90 = .ok (.iload_n 3, 1) := by decide +kernel
theorem d_Commands_program_91 : decode (rm_code mCommands_program) 91 = .ok (.iadd, 1) := by decide +kernel
theorem d_Commands_program_92 : decode (rm_code mCommands_program) 92 = .ok (.aload_n 0, 1) := by decide +kernel
theorem d_Commands_program_93 : decode (rm_code mCommands_program) 93 = .ok (.bipush (6), 2) := by decide +kernel
theorem d_Commands_program_95 : decode (rm_code mCommands_program) 95 = .ok (.iload_n 3, 1) := by decide +kernel
theorem d_Commands_program_96 : decode (rm_code mCommands_program) 96 = .ok (.iadd, 1) := by decide +kernel
theorem d_Commands_program_97 : decode (rm_code mCommands_program) 97 = .ok (.invokevirtual 261, 3) := by decide +kernel
theorem d_Commands_program_100 : decode (rm_code mCommands_program) 100 = .ok (.invokevirtual 264, 3) := by decide +kernel
theorem d_Commands_program_103 : decode (rm_code mCommands_program) 103 = .ok (.iinc 3 (1), 3) := by decide +kernel
theorem d_Commands_program_106 : decode (rm_code mCommands_program) 106 = .ok (.goto (-40), 3) := by decide +kernel
theorem d_Commands_program_109 : decode (rm_code mCommands_program) 109 = .ok (.iconst 0, 1) := by decide +kernel
theorem d_Commands_program_110 : decode (rm_code mCommands_program) 110 = .ok (.ireturn, 1) := by decide +kernel
theorem d_Commands_program_111 : decode (rm_code mCommands_program) 111 = .ok (.iload_n 2, 1) := by decide +kernel
theorem d_Commands_program_112 : decode (rm_code mCommands_program) 112 = .ok (.bipush (32), 2) := by decide +kernel
theorem d_Commands_program_114 : decode (rm_code mCommands_program) 114 = .ok (.if_icmp .le (15), 3) := by decide +kernel
theorem d_Commands_program_117 : decode (rm_code mCommands_program) 117 = .ok (.aload_n 0, 1) := by decide +kernel
theorem d_Commands_program_118 : decode (rm_code mCommands_program) 118 = .ok (.getfield 38, 3) := by decide +kernel
theorem d_Commands_program_121 : decode (rm_code mCommands_program) 121 = .ok (.bipush (32), 2) := by decide +kernel
theorem d_Commands_program_123 : decode (rm_code mCommands_program) 123 = .ok (.iconst 0, 1) := by decide +kernel
theorem d_Commands_program_124 : decode (rm_code mCommands_program) 124 = .ok (.iconst 0, 1) := by decide +kernel
theorem d_Commands_program_125 : decode (rm_code mCommands_program) 125 = .ok (.invokevirtual 73, 3) := by decide +kernel
theorem d_Commands_program_128 : decode (rm_code mCommands_program) 128 = .ok (.ireturn, 1) := by decide +kernel
theorem d_Commands_program_129 : decode (rm_code mCommands_program) 129 = .ok (.iconst 0, 1) := by decide +kernel
theorem d_Commands_program_130 : decode (rm_code mCommands_program) 130 = .ok (.istore_n 3, 1) := by decide +kernel
theorem d_Commands_program_131 : decode (rm_code mCommands_program) 131 = .ok (.iload_n 3, 1) := by decide +kernel
theorem d_Commands_program_132 : decode (rm_code mCommands_program) 132 = .ok (.iload_n 2, 1) := by decide +kernel
theorem d_Commands_program_133 : decode (rm_code mCommands_program) 133 = .ok (.if_icmp .ge (26), 3) := by decide +kernel
theorem d_Commands_program_136 : decode (rm_code mCommands_program) 136 = .ok (.aload_n 0, 1) := by decide +kernel
theorem d_Commands_program_137 : decode (rm_code mCommands_program) 137 = .ok (.getfield 38, 3) := by decide +kernel
theorem d_Commands_program_140 : decode (rm_code mCommands_program) 140 = .ok (.aload_n 0, 1) := by decide +kernel
theorem d_Commands_program_141 : decode (rm_code mCommands_program) 141 = .ok (.getfield 28, 3) := by decide +kernel
theorem d_Commands_program_144 : decode (rm_code mCommands_program) 144 = .ok (.iload_n 1, 1) := by decide +kernel
theorem d_Commands_program_145 : decode (rm_code mCommands_program) 145 = .ok (.iload_n 3, 1) := by decide +kernel
theorem d_Commands_program_146 : decode (rm_code mCommands_program) 146 = .ok (.iadd, 1) := by decide +kernel
theorem d_Commands_program_147 : decode (rm_code mCommands_program) 147 = .ok (.invokevirtual 268, 3) := by decide +kernel
theorem d_Commands_program_150 : decode (rm_code mCommands_program) 150 = .ok (.invokevirtual 271, 3) := by decide +kernel
theorem d_Commands_program_153 : decode (rm_code mCommands_program) 153 = .ok (.iinc 3 (1), 3) := by decide +kernel
theorem d_Commands_program_156 : decode (rm_code mCommands_program) 156 = .ok (.goto (-25), 3) := by decide +kernel
theorem d_Commands_program_159 : decode (rm_code mCommands_program) 159 = .ok (.iconst 0, 1) := by decide +kernel
theorem d_Commands_program_160 : decode (rm_code mCommands_program) 160 = .ok (.ireturn, 1) := by decide +kernel
theorem d_Commands_program_161 : decode (rm_code mCommands_program) 161 = .ok (.aload_n 0, 1) := by decide +kernel
theorem d_Commands_program_162 : decode (rm_code mCommands_program) 162 = .ok (.getfield 28, 3) := by decide +kernel
theorem d_Commands_program_165 : decode (rm_code mCommands_program) 165 = .ok (.iload_n 1, 1) := by decide +kernel
theorem d_Commands_program_166 : decode (rm_code mCommands_program) 166 = .ok (.invokevirtual 275, 3) := by decide +kernel
theorem d_Commands_program_169 : decode (rm_code mCommands_program) 169 = .ok (.istore_n 3, 1) := by decide +kernel
theorem d_Commands_program_170 : decode (rm_code mCommands_program) 170 = .ok (.iload_n 3, 1) := by decide +kernel
theorem d_Commands_program_171 : decode (rm_code mCommands_program) 171 = .ok (.ifCond .ne (7), 3) := by decide +kernel
theorem d_Commands_program_174 : decode (rm_code mCommands_program) 174 = .ok (.iconst 0, 1) := by decide +kernel
theorem d_Commands_program_175 : decode (rm_code mCommands_program) 175 = .ok (.goto (14), 3) := by decide +kernel
theorem d_Commands_program_178 : decode (rm_code mCommands_program) 178 = .ok (.aload_n 0, 1) := by decide +kernel
theorem d_Commands_program_179 : decode (rm_code mCommands_program) 179 = .ok (.getfield 38, 3) := by decide +kernel
theorem d_Commands_program_182 : decode (rm_code mCommands_program) 182 = .ok (.bipush (28), 2) := by decide +kernel
theorem d_Commands_program_184 : decode (rm_code mCommands_program) 184 = .ok (.iload_n 3, 1) := by decide +kernel
theorem d_Commands_program_185 : decode (rm_code mCommands_program) 185 = .ok (.iconst 0, 1) := by decide +kernel
theorem d_Commands_program_186 : decode (rm_code mCommands_program) 186 = .ok (.invokevirtual 73, 3) := by decide +kernel
theorem d_Commands_program_189 : decode (rm_code mCommands_program) 189 = .ok (.ireturn, 1) := by decide +kernel
theorem d_Commands_program_190 : decode (rm_code mCommands_program) 190 = .ok (.aload_n 0, 1) := by decide +kernel
theorem d_Commands_program_191 : decode (rm_code mCommands_program) 191 = .ok (.invokevirtual 94, 3) := by decide +kernel
theorem d_Commands_program_194 : decode (rm_code mCommands_program) 194 = .ok (.ireturn, 1) := by decide +kernel
theorem p_Commands_program_0 {S : rz_S} {K : Int32 → rz_S → Prop} (w : rz_ev mCommands_argument [.ref 108, .int 3] S (rz_i (fun xq1 Sq1 => rz_ev mCommands_argument [.ref 108, .int 4] Sq1 (rz_i (fun xq2 Sq2 => rz_ev mCommands_argument [.ref 108, .int 5] Sq2 (rz_i (fun xq3 Sq3 => rz_ev mTape_byteAt [.ref 1, .int 2] Sq3 (rz_i (fun xq4 Sq4 => ((xq4 = 69 → rz_ev mProcessor_run [.ref 37, .int (xq1 + (256 * xq2))] Sq4 (rz_i (fun xq6 Sq6 => ((xq6 = 0 → K 0 Sq6) ∧ (¬ xq6 = 0 → rz_ev mStatus_set [.ref 3, .int 28, .int xq6, .int 0] Sq6 (rz_i (fun xq8 Sq8 => K xq8 Sq8))))))) ∧ (xq4 = 82 → ((xq3 ≤ 32 → rz mCommands_program 131 [(0, .ref 108), (1, .int (xq1 + (256 * xq2))), (2, .int xq3), (3, .int 0)] [] Sq4 (rz_i K)) ∧ (¬ xq3 ≤ 32 → rz_ev mStatus_set [.ref 3, .int 32, .int 0, .int 0] Sq4 (rz_i (fun xq11 Sq11 => K xq11 Sq11))))) ∧ (xq4 = 87 → rz mCommands_program 66 [(0, .ref 108), (1, .int (xq1 + (256 * xq2))), (2, .int xq3), (3, .int 0)] [] Sq4 (rz_i K)) ∧ (¬ xq4 = 69 → ¬ xq4 = 82 → ¬ xq4 = 87 → rz_ev mCommands_unknown [.ref 108] Sq4 (rz_i (fun xq13 Sq13 => K xq13 Sq13))))))))))))) : rz mCommands_program 0 [(0, .ref 108)] [] S (rz_i K) := by
  refine rz_pure (pc' := 1) d_Commands_program_0 rfl ?_
  refine rz_iconst (v := 3) d_Commands_program_1 (by decide) ?_
  refine rz_callVi (t := [.int 3]) d_Commands_program_2 w_2_261 rfl rfl rfl w (fun xq1 Sq1 q1 => ?_)
  refine rz_sipush (v := 256) d_Commands_program_5 (by decide) ?_
  refine rz_pure (pc' := 9) d_Commands_program_8 rfl ?_
  refine rz_iconst (v := 4) d_Commands_program_9 (by decide) ?_
  refine rz_callVi (t := [.int 4]) d_Commands_program_10 w_2_261 rfl rfl rfl q1 (fun xq2 Sq2 q2 => ?_)
  refine rz_imul d_Commands_program_13 ?_
  refine rz_iadd d_Commands_program_14 ?_
  refine rz_pure (pc' := 16) (l' := [(1, .int (xq1 + (256 * xq2))), (0, .ref 108)]) d_Commands_program_15 rfl ?_
  refine rz_pure (pc' := 17) d_Commands_program_16 rfl ?_
  refine rz_iconst (v := 5) d_Commands_program_17 (by decide) ?_
  refine rz_callVi (t := [.int 5]) d_Commands_program_18 w_2_261 rfl rfl rfl q2 (fun xq3 Sq3 q3 => ?_)
  refine rz_pure (pc' := 22) (l' := [(2, .int xq3), (1, .int (xq1 + (256 * xq2))), (0, .ref 108)]) d_Commands_program_21 rfl ?_
  refine rz_pure (pc' := 23) d_Commands_program_22 rfl ?_
  refine rz_getr d_Commands_program_23 f_2_48 rfl rfl ?_
  refine rz_iconst (v := 2) d_Commands_program_26 (by decide) ?_
  refine rz_callVi (t := [.int 2]) d_Commands_program_27 w_2_77 rfl rfl rfl q3 (fun xq4 Sq4 q4 => ?_)
  by_cases b5 : xq4 = 69
  · refine rz_lsj (v := 69) (tgt := 161) d_Commands_program_30 b5 rfl ?_
    refine rz_pure (pc' := 162) d_Commands_program_161 rfl ?_
    refine rz_getr d_Commands_program_162 f_2_28 rfl rfl ?_
    refine rz_pure (pc' := 166) d_Commands_program_165 rfl ?_
    refine rz_callVi (t := [.int (xq1 + (256 * xq2))]) d_Commands_program_166 w_2_275 rfl rfl rfl (q4.1 b5) (fun xq6 Sq6 q6 => ?_)
    refine rz_pure (pc' := 170) (l' := [(3, .int xq6), (2, .int xq3), (1, .int (xq1 + (256 * xq2))), (0, .ref 108)]) d_Commands_program_169 rfl ?_
    refine rz_pure (pc' := 171) d_Commands_program_170 rfl ?_
    refine rz_ifne (tgt := 178) d_Commands_program_171 rfl (fun b7 => ?_) (fun b7 => ?_)
    · skip
      refine rz_pure (pc' := 179) d_Commands_program_178 rfl ?_
      refine rz_getr d_Commands_program_179 f_2_38 rfl rfl ?_
      refine rz_bipush (v := 28) d_Commands_program_182 (by decide) ?_
      refine rz_pure (pc' := 185) d_Commands_program_184 rfl ?_
      refine rz_iconst (v := 0) d_Commands_program_185 (by decide) ?_
      refine rz_callVi (t := [.int 0, .int xq6, .int 28]) d_Commands_program_186 w_2_73 rfl rfl rfl (q6.2 b7) (fun xq8 Sq8 q8 => ?_)
      exact rz_ireti d_Commands_program_189 rfl rfl q8
    · skip
      refine rz_iconst (v := 0) d_Commands_program_174 (by decide) ?_
      refine rz_pure (pc' := 189) d_Commands_program_175 rfl ?_
      exact rz_ireti d_Commands_program_189 rfl rfl (q6.1 b7)
  by_cases b9 : xq4 = 82
  · refine rz_lsj (v := 82) (tgt := 111) d_Commands_program_30 b9 rfl ?_
    refine rz_pure (pc' := 112) d_Commands_program_111 rfl ?_
    refine rz_bipush (v := 32) d_Commands_program_112 (by decide) ?_
    refine rz_icmple (tgt := 129) d_Commands_program_114 rfl (fun b10 => ?_) (fun b10 => ?_)
    · skip
      refine rz_iconst (v := 0) d_Commands_program_129 (by decide) ?_
      refine rz_pure (pc' := 131) (l' := [(3, .int 0), (2, .int xq3), (1, .int (xq1 + (256 * xq2))), (0, .ref 108)]) d_Commands_program_130 rfl ?_
      exact rz_pick (ks := [0, 1, 2, 3]) (l := [(0, .ref 108), (1, .int (xq1 + (256 * xq2))), (2, .int xq3), (3, .int 0)]) rfl rfl (by decide) rfl ((q4.2.1 b9).1 b10)
    · skip
      refine rz_pure (pc' := 118) d_Commands_program_117 rfl ?_
      refine rz_getr d_Commands_program_118 f_2_38 rfl rfl ?_
      refine rz_bipush (v := 32) d_Commands_program_121 (by decide) ?_
      refine rz_iconst (v := 0) d_Commands_program_123 (by decide) ?_
      refine rz_iconst (v := 0) d_Commands_program_124 (by decide) ?_
      refine rz_callVi (t := [.int 0, .int 0, .int 32]) d_Commands_program_125 w_2_73 rfl rfl rfl ((q4.2.1 b9).2 b10) (fun xq11 Sq11 q11 => ?_)
      exact rz_ireti d_Commands_program_128 rfl rfl q11
  by_cases b12 : xq4 = 87
  · refine rz_lsj (v := 87) (tgt := 64) d_Commands_program_30 b12 rfl ?_
    refine rz_iconst (v := 0) d_Commands_program_64 (by decide) ?_
    refine rz_pure (pc' := 66) (l' := [(3, .int 0), (2, .int xq3), (1, .int (xq1 + (256 * xq2))), (0, .ref 108)]) d_Commands_program_65 rfl ?_
    exact rz_pick (ks := [0, 1, 2, 3]) (l := [(0, .ref 108), (1, .int (xq1 + (256 * xq2))), (2, .int xq3), (3, .int 0)]) rfl rfl (by decide) rfl (q4.2.2.1 b12)
  refine rz_lsd (tgt := 190) d_Commands_program_30 rfl ⟨b5, b9, b12, trivial⟩ rfl ?_
  refine rz_pure (pc' := 191) d_Commands_program_190 rfl ?_
  refine rz_callVi (t := []) d_Commands_program_191 w_2_94 rfl rfl rfl (q4.2.2.2 b5 b9 b12) (fun xq13 Sq13 q13 => ?_)
  exact rz_ireti d_Commands_program_194 rfl rfl q13
theorem p_Commands_program_131 {S : rz_S} {K : Int32 → rz_S → Prop} {a1 : Int32} {a2 : Int32} {a3 : Int32} (w : ((a2 ≤ a3 → K 0 S) ∧ (¬ a2 ≤ a3 → rz_ev mProcessor_get [.ref 37, .int (a1 + a3)] S (rz_i (fun xq2 Sq2 => rz_ev mStatus_addReply [.ref 3, .int xq2] Sq2 (rz_v (fun Sq3 => rz mCommands_program 131 [(0, .ref 108), (1, .int a1), (2, .int a2), (3, .int (a3 + 1))] [] Sq3 (rz_i K)))))))) : rz mCommands_program 131 [(0, .ref 108), (1, .int a1), (2, .int a2), (3, .int a3)] [] S (rz_i K) := by
  refine rz_pure (pc' := 132) d_Commands_program_131 rfl ?_
  refine rz_pure (pc' := 133) d_Commands_program_132 rfl ?_
  refine rz_icmpge (tgt := 159) d_Commands_program_133 rfl (fun b1 => ?_) (fun b1 => ?_)
  · skip
    refine rz_iconst (v := 0) d_Commands_program_159 (by decide) ?_
    exact rz_ireti d_Commands_program_160 rfl rfl (w.1 b1)
  · skip
    refine rz_pure (pc' := 137) d_Commands_program_136 rfl ?_
    refine rz_getr d_Commands_program_137 f_2_38 rfl rfl ?_
    refine rz_pure (pc' := 141) d_Commands_program_140 rfl ?_
    refine rz_getr d_Commands_program_141 f_2_28 rfl rfl ?_
    refine rz_pure (pc' := 145) d_Commands_program_144 rfl ?_
    refine rz_pure (pc' := 146) d_Commands_program_145 rfl ?_
    refine rz_iadd d_Commands_program_146 ?_
    refine rz_callVi (t := [.int (a1 + a3)]) d_Commands_program_147 w_2_268 rfl rfl rfl (w.2 b1) (fun xq2 Sq2 q2 => ?_)
    refine rz_callVv (t := [.int xq2]) d_Commands_program_150 w_2_271 rfl rfl rfl q2 (fun Sq3 q3 => ?_)
    refine rz_pure (pc' := 156) (l' := [(3, .int (a3 + 1)), (0, .ref 108), (1, .int a1), (2, .int a2)]) d_Commands_program_153 rfl ?_
    refine rz_pure (pc' := 131) d_Commands_program_156 rfl ?_
    exact rz_pick (ks := [0, 1, 2, 3]) (l := [(0, .ref 108), (1, .int a1), (2, .int a2), (3, .int (a3 + 1))]) rfl rfl (by decide) rfl q3
theorem p_Commands_program_66 {S : rz_S} {K : Int32 → rz_S → Prop} {a1 : Int32} {a2 : Int32} {a3 : Int32} (w : ((a2 ≤ a3 → K 0 S) ∧ (¬ a2 ≤ a3 → ((S.2 1 2 ≤ 6 + a3 → K 0 S) ∧ (¬ S.2 1 2 ≤ 6 + a3 → rz_ev mCommands_argument [.ref 108, .int (6 + a3)] S (rz_i (fun xq3 Sq3 => rz_ev mProcessor_set [.ref 37, .int (a1 + a3), .int xq3] Sq3 (rz_v (fun Sq4 => rz mCommands_program 66 [(0, .ref 108), (1, .int a1), (2, .int a2), (3, .int (a3 + 1))] [] Sq4 (rz_i K)))))))))) : rz mCommands_program 66 [(0, .ref 108), (1, .int a1), (2, .int a2), (3, .int a3)] [] S (rz_i K) := by
  refine rz_pure (pc' := 67) d_Commands_program_66 rfl ?_
  refine rz_pure (pc' := 68) d_Commands_program_67 rfl ?_
  refine rz_icmpge (tgt := 109) d_Commands_program_68 rfl (fun b1 => ?_) (fun b1 => ?_)
  · skip
    refine rz_iconst (v := 0) d_Commands_program_109 (by decide) ?_
    exact rz_ireti d_Commands_program_110 rfl rfl (w.1 b1)
  · skip
    refine rz_bipush (v := 6) d_Commands_program_71 (by decide) ?_
    refine rz_pure (pc' := 74) d_Commands_program_73 rfl ?_
    refine rz_iadd d_Commands_program_74 ?_
    refine rz_pure (pc' := 76) d_Commands_program_75 rfl ?_
    refine rz_getr d_Commands_program_76 f_2_48 rfl rfl ?_
    refine rz_getiv (v := S.2 1 2) d_Commands_program_79 f_2_62 rfl rfl rfl ?_
    refine rz_icmpge (tgt := 109) d_Commands_program_82 rfl (fun b2 => ?_) (fun b2 => ?_)
    · skip
      refine rz_iconst (v := 0) d_Commands_program_109 (by decide) ?_
      exact rz_ireti d_Commands_program_110 rfl rfl ((w.2 b1).1 b2)
    · skip
      refine rz_pure (pc' := 86) d_Commands_program_85 rfl ?_
      refine rz_getr d_Commands_program_86 f_2_28 rfl rfl ?_
      refine rz_pure (pc' := 90) d_Commands_program_89 rfl ?_
      refine rz_pure (pc' := 91) d_Commands_program_90 rfl ?_
      refine rz_iadd d_Commands_program_91 ?_
      refine rz_pure (pc' := 93) d_Commands_program_92 rfl ?_
      refine rz_bipush (v := 6) d_Commands_program_93 (by decide) ?_
      refine rz_pure (pc' := 96) d_Commands_program_95 rfl ?_
      refine rz_iadd d_Commands_program_96 ?_
      refine rz_callVi (t := [.int (6 + a3)]) d_Commands_program_97 w_2_261 rfl rfl rfl ((w.2 b1).2 b2) (fun xq3 Sq3 q3 => ?_)
      refine rz_callVv (t := [.int xq3, .int (a1 + a3)]) d_Commands_program_100 w_2_264 rfl rfl rfl q3 (fun Sq4 q4 => ?_)
      refine rz_pure (pc' := 106) (l' := [(3, .int (a3 + 1)), (0, .ref 108), (1, .int a1), (2, .int a2)]) d_Commands_program_103 rfl ?_
      refine rz_pure (pc' := 66) d_Commands_program_106 rfl ?_
      exact rz_pick (ks := [0, 1, 2, 3]) (l := [(0, .ref 108), (1, .int a1), (2, .int a2), (3, .int (a3 + 1))]) rfl rfl (by decide) rfl q4
theorem d_Commands_argument_0 : decode (rm_code mCommands_argument) 0 = .ok (.iconst 0, 1) := by decide +kernel
theorem d_Commands_argument_1 : decode (rm_code mCommands_argument) 1 = .ok (.aload_n 0, 1) := by decide +kernel
theorem d_Commands_argument_2 : decode (rm_code mCommands_argument) 2 = .ok (.getfield 48, 3) := by decide +kernel
theorem d_Commands_argument_5 : decode (rm_code mCommands_argument) 5 = .ok (.iload_n 1, 1) := by decide +kernel
theorem d_Commands_argument_6 : decode (rm_code mCommands_argument) 6 = .ok (.invokevirtual 77, 3) := by decide +kernel
theorem d_Commands_argument_9 : decode (rm_code mCommands_argument) 9 = .ok (.invokestatic 278, 3) := by decide +kernel
theorem d_Commands_argument_12 : decode (rm_code mCommands_argument) 12 = .ok (.ireturn, 1) := by decide +kernel
theorem p_Commands_argument_0 {S : rz_S} {K : Int32 → rz_S → Prop} {a1 : Int32} (w : rz_ev mTape_byteAt [.ref 1, .int a1] S (rz_i (fun xq1 Sq1 => K (if 0 < xq1 then xq1 else 0) Sq1))) : rz mCommands_argument 0 [(0, .ref 108), (1, .int a1)] [] S (rz_i K) := by
  refine rz_iconst (v := 0) d_Commands_argument_0 (by decide) ?_
  refine rz_pure (pc' := 2) d_Commands_argument_1 rfl ?_
  refine rz_getr d_Commands_argument_2 f_2_48 rfl rfl ?_
  refine rz_pure (pc' := 6) d_Commands_argument_5 rfl ?_
  refine rz_callVi (t := [.int a1]) d_Commands_argument_6 w_2_77 rfl rfl rfl w (fun xq1 Sq1 q1 => ?_)
  refine rz_max d_Commands_argument_9 rfl rfl rfl ?_
  exact rz_ireti d_Commands_argument_12 rfl rfl q1
theorem d_X_write_0 : decode (rm_code mX_write) 0 = .ok (.aload_n 0, 1) := by decide +kernel
theorem d_X_write_1 : decode (rm_code mX_write) 1 = .ok (.iload_n 1, 1) := by decide +kernel
theorem d_X_write_2 : decode (rm_code mX_write) 2 = .ok (.iload_n 2, 1) := by decide +kernel
theorem d_X_write_3 : decode (rm_code mX_write) 3 = .ok (.invokevirtual 76, 3) := by decide +kernel
theorem d_X_write_6 : decode (rm_code mX_write) 6 = .ok (.ifCond .ne (5), 3) := by decide +kernel
theorem d_X_write_9 : decode (rm_code mX_write) 9 = .ok (.iconst (-1), 1) := by decide +kernel
theorem d_X_write_10 : decode (rm_code mX_write) 10 = .ok (.ireturn, 1) := by decide +kernel
theorem d_X_write_11 : decode (rm_code mX_write) 11 = .ok (.iload_n 1, 1) := by decide +kernel
theorem d_X_write_12 : decode (rm_code mX_write) 12 = .ok (.bipush (15), 2) := by decide +kernel
theorem d_X_write_14 : decode (rm_code mX_write) 14 = .ok (.if_icmp .ne (19), 3) := by decide +kernel
theorem d_X_write_17 : decode (rm_code mX_write) 17 = .ok (.aload_n 0, 1) := by decide +kernel
theorem d_X_write_18 : decode (rm_code mX_write) 18 = .ok (.getfield 53, 3) := by decide +kernel
theorem d_X_write_21 : decode (rm_code mX_write) 21 = .ok (.invokevirtual 80, 3) := by decide +kernel
theorem d_X_write_24 : decode (rm_code mX_write) 24 = .ok (.pop, 1) := by decide +kernel
theorem d_X_write_25 : decode (rm_code mX_write) 25 = .ok (.aload_n 0, 1) := by decide +kernel
theorem d_X_write_26 : decode (rm_code mX_write) 26 = .ok (.getfield 19, 3) := by decide +kernel
theorem d_X_write_29 : decode (rm_code mX_write) 29 = .ok (.getfield 84, 3) := by decide +kernel
theorem d_X_write_32 : decode (rm_code mX_write) 32 = .ok (.ireturn, 1) := by decide +kernel
theorem d_X_write_33 : decode (rm_code mX_write) 33 = .ok (.iload_n 2, 1) := by decide +kernel
theorem d_X_write_34 : decode (rm_code mX_write) 34 = .ok (.ifCond .le (18), 3) := by decide +kernel
theorem d_X_write_37 : decode (rm_code mX_write) 37 = .ok (.aload_n 0, 1) := by decide +kernel
theorem d_X_write_38 : decode (rm_code mX_write) 38 = .ok (.getfield 19, 3) := by decide +kernel
theorem d_X_write_41 : decode (rm_code mX_write) 41 = .ok (.invokevirtual 87, 3) := by decide +kernel
theorem d_X_write_44 : decode (rm_code mX_write) 44 = .ok (.aload_n 0, 1) := by decide +kernel
theorem d_X_write_45 : decode (rm_code mX_write) 45 = .ok (.getfield 44, 3) := by decide +kernel
theorem d_X_write_48 : decode (rm_code mX_write) 48 = .ok (.iload_n 1, 1) := by decide +kernel
theorem d_X_write_49 : decode (rm_code mX_write) 49 = .ok (.invokevirtual 98, 3) := by decide +kernel
theorem d_X_write_52 : decode (rm_code mX_write) 52 = .ok (.aload_n 0, 1) := by decide +kernel
theorem d_X_write_53 : decode (rm_code mX_write) 53 = .ok (.getfield 19, 3) := by decide +kernel
theorem d_X_write_56 : decode (rm_code mX_write) 56 = .ok (.getfield 84, 3) := by decide +kernel
theorem d_X_write_59 : decode (rm_code mX_write) 59 = .ok (.ireturn, 1) := by decide +kernel
theorem p_X_write_0 {S : rz_S} {K : Int32 → rz_S → Prop} {a1 : Int32} {a2 : Int32} (w : rz_ev mX_sendText [.ref 0, .int a1, .int a2] S (rz_i (fun xq1 Sq1 => ((xq1 = 0 → K (-1) Sq1) ∧ (¬ xq1 = 0 → ((a1 = 15 → rz_ev mCommands_run [.ref 108] Sq1 (rz_i (fun xq7 Sq7 => K (Sq7.2 3 0) Sq7))) ∧ (¬ a1 = 15 → ((a2 ≤ 0 → K (Sq1.2 3 0) Sq1) ∧ (¬ a2 ≤ 0 → rz_ev mStatus_begin [.ref 3] Sq1 (rz_v (fun Sq5 => rz_ev mDos_sendBytes [.ref 39, .int a1] Sq5 (rz_v (fun Sq6 => K (Sq6.2 3 0) Sq6))))))))))))) : rz mX_write 0 [(0, .ref 0), (1, .int a1), (2, .int a2)] [] S (rz_i K) := by
  refine rz_pure (pc' := 1) d_X_write_0 rfl ?_
  refine rz_pure (pc' := 2) d_X_write_1 rfl ?_
  refine rz_pure (pc' := 3) d_X_write_2 rfl ?_
  refine rz_callVi (t := [.int a2, .int a1]) d_X_write_3 w_11_76 rfl rfl rfl w (fun xq1 Sq1 q1 => ?_)
  refine rz_ifne (tgt := 11) d_X_write_6 rfl (fun b2 => ?_) (fun b2 => ?_)
  · skip
    refine rz_pure (pc' := 12) d_X_write_11 rfl ?_
    refine rz_bipush (v := 15) d_X_write_12 (by decide) ?_
    refine rz_icmpne (tgt := 33) d_X_write_14 rfl (fun b3 => ?_) (fun b3 => ?_)
    · skip
      refine rz_pure (pc' := 34) d_X_write_33 rfl ?_
      refine rz_ifle (tgt := 52) d_X_write_34 rfl (fun b4 => ?_) (fun b4 => ?_)
      · skip
        refine rz_pure (pc' := 53) d_X_write_52 rfl ?_
        refine rz_getr d_X_write_53 f_11_19 rfl rfl ?_
        refine rz_getiv (v := Sq1.2 3 0) d_X_write_56 f_11_84 rfl rfl rfl ?_
        exact rz_ireti d_X_write_59 rfl rfl (((q1.2 b2).2 b3).1 b4)
      · skip
        refine rz_pure (pc' := 38) d_X_write_37 rfl ?_
        refine rz_getr d_X_write_38 f_11_19 rfl rfl ?_
        refine rz_callVv (t := []) d_X_write_41 w_11_87 rfl rfl rfl (((q1.2 b2).2 b3).2 b4) (fun Sq5 q5 => ?_)
        refine rz_pure (pc' := 45) d_X_write_44 rfl ?_
        refine rz_getr d_X_write_45 f_11_44 rfl rfl ?_
        refine rz_pure (pc' := 49) d_X_write_48 rfl ?_
        refine rz_callVv (t := [.int a1]) d_X_write_49 w_11_98 rfl rfl rfl q5 (fun Sq6 q6 => ?_)
        refine rz_pure (pc' := 53) d_X_write_52 rfl ?_
        refine rz_getr d_X_write_53 f_11_19 rfl rfl ?_
        refine rz_getiv (v := Sq6.2 3 0) d_X_write_56 f_11_84 rfl rfl rfl ?_
        exact rz_ireti d_X_write_59 rfl rfl q6
    · skip
      refine rz_pure (pc' := 18) d_X_write_17 rfl ?_
      refine rz_getr d_X_write_18 f_11_53 rfl rfl ?_
      refine rz_callVi (t := []) d_X_write_21 w_11_80 rfl rfl rfl ((q1.2 b2).1 b3) (fun xq7 Sq7 q7 => ?_)
      refine rz_pure (pc' := 25) d_X_write_24 rfl ?_
      refine rz_pure (pc' := 26) d_X_write_25 rfl ?_
      refine rz_getr d_X_write_26 f_11_19 rfl rfl ?_
      refine rz_getiv (v := Sq7.2 3 0) d_X_write_29 f_11_84 rfl rfl rfl ?_
      exact rz_ireti d_X_write_32 rfl rfl q7
  · skip
    refine rz_iconst (v := -1) d_X_write_9 (by decide) ?_
    exact rz_ireti d_X_write_10 rfl rfl (q1.1 b2)
theorem d_X_close_0 : decode (rm_code mX_close) 0 = .ok (.iload_n 1, 1) := by decide +kernel
theorem d_X_close_1 : decode (rm_code mX_close) 1 = .ok (.invokestatic 101, 3) := by decide +kernel
theorem d_X_close_4 : decode (rm_code mX_close) 4 = .ok (.ifCond .ne (5), 3) := by decide +kernel
theorem d_X_close_7 : decode (rm_code mX_close) 7 = .ok (.iconst (-1), 1) := by decide +kernel
theorem d_X_close_8 : decode (rm_code mX_close) 8 = .ok (.ireturn, 1) := by decide +kernel
theorem d_X_close_9 : decode (rm_code mX_close) 9 = .ok (.aload_n 0, 1) := by decide +kernel
theorem d_X_close_10 : decode (rm_code mX_close) 10 = .ok (.getfield 19, 3) := by decide +kernel
theorem d_X_close_13 : decode (rm_code mX_close) 13 = .ok (.invokevirtual 87, 3) := by decide +kernel
theorem d_X_close_16 : decode (rm_code mX_close) 16 = .ok (.iload_n 1, 1) := by decide +kernel
theorem d_X_close_17 : decode (rm_code mX_close) 17 = .ok (.bipush (15), 2) := by decide +kernel
theorem d_X_close_19 : decode (rm_code mX_close) 19 = .ok (.if_icmp .ne (13), 3) := by decide +kernel
theorem d_X_close_22 : decode (rm_code mX_close) 22 = .ok (.aload_n 0, 1) := by decide +kernel
theorem d_X_close_23 : decode (rm_code mX_close) 23 = .ok (.getfield 44, 3) := by decide +kernel
theorem d_X_close_26 : decode (rm_code mX_close) 26 = .ok (.invokevirtual 105, 3) := by decide +kernel
theorem d_X_close_29 : decode (rm_code mX_close) 29 = .ok (.goto (12), 3) := by decide +kernel
theorem d_X_close_32 : decode (rm_code mX_close) 32 = .ok (.aload_n 0, 1) := by decide +kernel
theorem d_X_close_33 : decode (rm_code mX_close) 33 = .ok (.getfield 44, 3) := by decide +kernel
theorem d_X_close_36 : decode (rm_code mX_close) 36 = .ok (.iload_n 1, 1) := by decide +kernel
theorem d_X_close_37 : decode (rm_code mX_close) 37 = .ok (.invokevirtual 108, 3) := by decide +kernel
theorem d_X_close_40 : decode (rm_code mX_close) 40 = .ok (.pop, 1) := by decide +kernel
theorem d_X_close_41 : decode (rm_code mX_close) 41 = .ok (.aload_n 0, 1) := by decide +kernel
theorem d_X_close_42 : decode (rm_code mX_close) 42 = .ok (.getfield 19, 3) := by decide +kernel
theorem d_X_close_45 : decode (rm_code mX_close) 45 = .ok (.getfield 84, 3) := by decide +kernel
theorem d_X_close_48 : decode (rm_code mX_close) 48 = .ok (.ireturn, 1) := by decide +kernel
theorem p_X_close_0 {S : rz_S} {K : Int32 → rz_S → Prop} {a1 : Int32} (w : rz_ev mX_isChannel [.int a1] S (rz_i (fun xq1 Sq1 => ((xq1 = 0 → K (-1) Sq1) ∧ (¬ xq1 = 0 → rz_ev mStatus_begin [.ref 3] Sq1 (rz_v (fun Sq3 => ((a1 = 15 → rz_ev mDos_closeAll [.ref 39] Sq3 (rz_v (fun Sq6 => K (Sq6.2 3 0) Sq6))) ∧ (¬ a1 = 15 → rz_ev mDos_closeChannel [.ref 39, .int a1] Sq3 (rz_i (fun xq5 Sq5 => K (Sq5.2 3 0) Sq5))))))))))) : rz mX_close 0 [(0, .ref 0), (1, .int a1)] [] S (rz_i K) := by
  refine rz_pure (pc' := 1) d_X_close_0 rfl ?_
  refine rz_callSi (t := [.int a1]) d_X_close_1 rfl w_11_101 rfl rfl w (fun xq1 Sq1 q1 => ?_)
  refine rz_ifne (tgt := 9) d_X_close_4 rfl (fun b2 => ?_) (fun b2 => ?_)
  · skip
    refine rz_pure (pc' := 10) d_X_close_9 rfl ?_
    refine rz_getr d_X_close_10 f_11_19 rfl rfl ?_
    refine rz_callVv (t := []) d_X_close_13 w_11_87 rfl rfl rfl (q1.2 b2) (fun Sq3 q3 => ?_)
    refine rz_pure (pc' := 17) d_X_close_16 rfl ?_
    refine rz_bipush (v := 15) d_X_close_17 (by decide) ?_
    refine rz_icmpne (tgt := 32) d_X_close_19 rfl (fun b4 => ?_) (fun b4 => ?_)
    · skip
      refine rz_pure (pc' := 33) d_X_close_32 rfl ?_
      refine rz_getr d_X_close_33 f_11_44 rfl rfl ?_
      refine rz_pure (pc' := 37) d_X_close_36 rfl ?_
      refine rz_callVi (t := [.int a1]) d_X_close_37 w_11_108 rfl rfl rfl (q3.2 b4) (fun xq5 Sq5 q5 => ?_)
      refine rz_pure (pc' := 41) d_X_close_40 rfl ?_
      refine rz_pure (pc' := 42) d_X_close_41 rfl ?_
      refine rz_getr d_X_close_42 f_11_19 rfl rfl ?_
      refine rz_getiv (v := Sq5.2 3 0) d_X_close_45 f_11_84 rfl rfl rfl ?_
      exact rz_ireti d_X_close_48 rfl rfl q5
    · skip
      refine rz_pure (pc' := 23) d_X_close_22 rfl ?_
      refine rz_getr d_X_close_23 f_11_44 rfl rfl ?_
      refine rz_callVv (t := []) d_X_close_26 w_11_105 rfl rfl rfl (q3.1 b4) (fun Sq6 q6 => ?_)
      refine rz_pure (pc' := 41) d_X_close_29 rfl ?_
      refine rz_pure (pc' := 42) d_X_close_41 rfl ?_
      refine rz_getr d_X_close_42 f_11_19 rfl rfl ?_
      refine rz_getiv (v := Sq6.2 3 0) d_X_close_45 f_11_84 rfl rfl rfl ?_
      exact rz_ireti d_X_close_48 rfl rfl q6
  · skip
    refine rz_iconst (v := -1) d_X_close_7 (by decide) ?_
    exact rz_ireti d_X_close_8 rfl rfl (q1.1 b2)
theorem d_X_read_0 : decode (rm_code mX_read) 0 = .ok (.iload_n 1, 1) := by decide +kernel
theorem d_X_read_1 : decode (rm_code mX_read) 1 = .ok (.invokestatic 101, 3) := by decide +kernel
theorem d_X_read_4 : decode (rm_code mX_read) 4 = .ok (.ifCond .eq (15), 3) := by decide +kernel
theorem d_X_read_7 : decode (rm_code mX_read) 7 = .ok (.iload_n 2, 1) := by decide +kernel
theorem d_X_read_8 : decode (rm_code mX_read) 8 = .ok (.iconst 1, 1) := by decide +kernel
theorem d_X_read_9 : decode (rm_code mX_read) 9 = .ok (.if_icmp .lt (10), 3) := by decide +kernel
theorem d_X_read_12 : decode (rm_code mX_read) 12 = .ok (.iload_n 2, 1) := by decide +kernel
theorem d_X_read_13 : decode (rm_code mX_read) 13 = .ok (.sipush (300), 3) := by decide +kernel
theorem d_X_read_16 : decode (rm_code mX_read) 16 = .ok (.if_icmp .le (5), 3) := by decide +kernel
theorem d_X_read_19 : decode (rm_code mX_read) 19 = .ok (.iconst (-1), 1) := by decide +kernel
theorem d_X_read_20 : decode (rm_code mX_read) 20 = .ok (.ireturn, 1) := by decide +kernel
theorem d_X_read_21 : decode (rm_code mX_read) 21 = .ok (.iload_n 1, 1) := by decide +kernel
theorem d_X_read_22 : decode (rm_code mX_read) 22 = .ok (.bipush (15), 2) := by decide +kernel
theorem d_X_read_24 : decode (rm_code mX_read) 24 = .ok (.if_icmp .ne (35), 3) := by decide +kernel
theorem d_X_read_27 : decode (rm_code mX_read) 27 = .ok (.aload_n 0, 1) := by decide +kernel
theorem d_X_read_28 : decode (rm_code mX_read) 28 = .ok (.aload_n 0, 1) := by decide +kernel
theorem d_X_read_29 : decode (rm_code mX_read) 29 = .ok (.getfield 19, 3) := by decide +kernel
theorem d_X_read_32 : decode (rm_code mX_read) 32 = .ok (.iload_n 2, 1) := by decide +kernel
theorem d_X_read_33 : decode (rm_code mX_read) 33 = .ok (.aload_n 0, 1) := by decide +kernel
theorem d_X_read_34 : decode (rm_code mX_read) 34 = .ok (.getfield 57, 3) := by decide +kernel
theorem d_X_read_37 : decode (rm_code mX_read) 37 = .ok (.invokevirtual 111, 3) := by decide +kernel
theorem d_X_read_40 : decode (rm_code mX_read) 40 = .ok (.putfield 61, 3) := by decide +kernel
theorem d_X_read_43 : decode (rm_code mX_read) 43 = .ok (.aload_n 0, 1) := by decide +kernel
theorem d_X_read_44 : decode (rm_code mX_read) 44 = .ok (.aload_n 0, 1) := by decide +kernel
theorem d_X_read_45 : decode (rm_code mX_read) 45 = .ok (.getfield 19, 3) := by decide +kernel
theorem d_X_read_48 : decode (rm_code mX_read) 48 = .ok (.getfield 115, 3) := by decide +kernel
theorem d_X_read_51 : decode (rm_code mX_read) 51 = .ok (.putfield 65, 3) := by decide +kernel
theorem d_X_read_54 : decode (rm_code mX_read) 54 = .ok (.aload_n 0, 1) := by decide +kernel
theorem d_X_read_55 : decode (rm_code mX_read) 55 = .ok (.getfield 61, 3) := by decide +kernel
theorem d_X_read_58 : decode (rm_code mX_read) 58 = .ok (.ireturn, 1) := by decide +kernel
theorem d_X_read_59 : decode (rm_code mX_read) 59 = .ok (.aload_n 0, 1) := by decide +kernel
theorem d_X_read_60 : decode (rm_code mX_read) 60 = .ok (.getfield 19, 3) := by decide +kernel
theorem d_X_read_63 : decode (rm_code mX_read) 63 = .ok (.invokevirtual 87, 3) := by decide +kernel
theorem d_X_read_66 : decode (rm_code mX_read) 66 = .ok (.aload_n 0, 1) := by decide +kernel
theorem d_X_read_67 : decode (rm_code mX_read) 67 = .ok (.aload_n 0, 1) := by decide +kernel
theorem d_X_read_68 : decode (rm_code mX_read) 68 = .ok (.getfield 44, 3) := by decide +kernel
theorem d_X_read_71 : decode (rm_code mX_read) 71 = .ok (.iload_n 1, 1) := by decide +kernel
theorem d_X_read_72 : decode (rm_code mX_read) 72 = .ok (.iload_n 2, 1) := by decide +kernel
theorem d_X_read_73 : decode (rm_code mX_read) 73 = .ok (.aload_n 0, 1) := by decide +kernel
theorem d_X_read_74 : decode (rm_code mX_read) 74 = .ok (.getfield 57, 3) := by decide +kernel
theorem d_X_read_77 : decode (rm_code mX_read) 77 = .ok (.invokevirtual 118, 3) := by decide +kernel
theorem d_X_read_80 : decode (rm_code mX_read) 80 = .ok (.putfield 61, 3) := by decide +kernel
theorem d_X_read_83 : decode (rm_code mX_read) 83 = .ok (.aload_n 0, 1) := by decide +kernel
theorem d_X_read_84 : decode (rm_code mX_read) 84 = .ok (.aload_n 0, 1) := by decide +kernel
theorem d_X_read_85 : decode (rm_code mX_read) 85 = .ok (.getfield 44, 3) := by decide +kernel
theorem d_X_read_88 : decode (rm_code mX_read) 88 = .ok (.getfield 121, 3) := by decide +kernel
theorem d_X_read_91 : decode (rm_code mX_read) 91 = .ok (.putfield 65, 3) := by decide +kernel
theorem d_X_read_94 : decode (rm_code mX_read) 94 = .ok (.aload_n 0, 1) := by decide +kernel
theorem d_X_read_95 : decode (rm_code mX_read) 95 = .ok (.getfield 61, 3) := by decide +kernel
theorem d_X_read_98 : decode (rm_code mX_read) 98 = .ok (.ireturn, 1) := by decide +kernel
theorem p_X_read_0 {S : rz_S} {K : Int32 → rz_S → Prop} {a1 : Int32} {a2 : Int32} (w : rz_ev mX_isChannel [.int a1] S (rz_i (fun xq1 Sq1 => ((xq1 = 0 → K (-1) Sq1) ∧ (¬ xq1 = 0 → ((a2 < 1 → K (-1) Sq1) ∧ (¬ a2 < 1 → ((a2 ≤ 300 → ((a1 = 15 → rz_ev mStatus_receive [.ref 3, .int a2, .ref 115] Sq1 (rz_i (fun xq8 Sq8 => (Sq8.2 3 3 = 0 ∨ Sq8.2 3 3 = 1) ∧ K xq8 (rz_uI (rz_uI Sq8 0 7 xq8) 0 8 (Sq8.2 3 3))))) ∧ (¬ a1 = 15 → rz_ev mStatus_begin [.ref 3] Sq1 (rz_v (fun Sq6 => rz_ev mDos_receive [.ref 39, .int a1, .int a2, .ref 115] Sq6 (rz_i (fun xq7 Sq7 => (Sq7.2 39 6 = 0 ∨ Sq7.2 39 6 = 1) ∧ K xq7 (rz_uI (rz_uI Sq7 0 7 xq7) 0 8 (Sq7.2 39 6))))))))) ∧ (¬ a2 ≤ 300 → K (-1) Sq1))))))))) : rz mX_read 0 [(0, .ref 0), (1, .int a1), (2, .int a2)] [] S (rz_i K) := by
  refine rz_pure (pc' := 1) d_X_read_0 rfl ?_
  refine rz_callSi (t := [.int a1]) d_X_read_1 rfl w_11_101 rfl rfl w (fun xq1 Sq1 q1 => ?_)
  refine rz_ifeq (tgt := 19) d_X_read_4 rfl (fun b2 => ?_) (fun b2 => ?_)
  · skip
    refine rz_iconst (v := -1) d_X_read_19 (by decide) ?_
    exact rz_ireti d_X_read_20 rfl rfl (q1.1 b2)
  · skip
    refine rz_pure (pc' := 8) d_X_read_7 rfl ?_
    refine rz_iconst (v := 1) d_X_read_8 (by decide) ?_
    refine rz_icmplt (tgt := 19) d_X_read_9 rfl (fun b3 => ?_) (fun b3 => ?_)
    · skip
      refine rz_iconst (v := -1) d_X_read_19 (by decide) ?_
      exact rz_ireti d_X_read_20 rfl rfl ((q1.2 b2).1 b3)
    · skip
      refine rz_pure (pc' := 13) d_X_read_12 rfl ?_
      refine rz_sipush (v := 300) d_X_read_13 (by decide) ?_
      refine rz_icmple (tgt := 21) d_X_read_16 rfl (fun b4 => ?_) (fun b4 => ?_)
      · skip
        refine rz_pure (pc' := 22) d_X_read_21 rfl ?_
        refine rz_bipush (v := 15) d_X_read_22 (by decide) ?_
        refine rz_icmpne (tgt := 59) d_X_read_24 rfl (fun b5 => ?_) (fun b5 => ?_)
        · skip
          refine rz_pure (pc' := 60) d_X_read_59 rfl ?_
          refine rz_getr d_X_read_60 f_11_19 rfl rfl ?_
          refine rz_callVv (t := []) d_X_read_63 w_11_87 rfl rfl rfl ((((q1.2 b2).2 b3).1 b4).2 b5) (fun Sq6 q6 => ?_)
          refine rz_pure (pc' := 67) d_X_read_66 rfl ?_
          refine rz_pure (pc' := 68) d_X_read_67 rfl ?_
          refine rz_getr d_X_read_68 f_11_44 rfl rfl ?_
          refine rz_pure (pc' := 72) d_X_read_71 rfl ?_
          refine rz_pure (pc' := 73) d_X_read_72 rfl ?_
          refine rz_pure (pc' := 74) d_X_read_73 rfl ?_
          refine rz_getr d_X_read_74 f_11_57 rfl rfl ?_
          refine rz_callVi (t := [.ref 115, .int a2, .int a1]) d_X_read_77 w_11_118 rfl rfl rfl q6 (fun xq7 Sq7 q7 => ?_)
          refine rz_puti d_X_read_80 f_11_61 rfl rfl rfl ?_
          refine rz_pure (pc' := 84) d_X_read_83 rfl ?_
          refine rz_pure (pc' := 85) d_X_read_84 rfl ?_
          refine rz_getr d_X_read_85 f_11_44 rfl rfl ?_
          refine rz_getiv (v := Sq7.2 39 6) d_X_read_88 f_11_121 rfl rfl ((rz_uI_n (fun h => absurd h.2 (by decide))).trans rfl) ?_
          refine rz_puti d_X_read_91 f_11_65 rfl rfl (rz_bfit q7.1) ?_
          refine rz_pure (pc' := 95) d_X_read_94 rfl ?_
          refine rz_getiv (v := xq7) d_X_read_95 f_11_61 rfl rfl ((rz_uI_n (fun h => absurd h.2 (by decide))).trans rz_uI_s) ?_
          exact rz_ireti d_X_read_98 rfl rfl q7.2
        · skip
          refine rz_pure (pc' := 28) d_X_read_27 rfl ?_
          refine rz_pure (pc' := 29) d_X_read_28 rfl ?_
          refine rz_getr d_X_read_29 f_11_19 rfl rfl ?_
          refine rz_pure (pc' := 33) d_X_read_32 rfl ?_
          refine rz_pure (pc' := 34) d_X_read_33 rfl ?_
          refine rz_getr d_X_read_34 f_11_57 rfl rfl ?_
          refine rz_callVi (t := [.ref 115, .int a2]) d_X_read_37 w_11_111 rfl rfl rfl ((((q1.2 b2).2 b3).1 b4).1 b5) (fun xq8 Sq8 q8 => ?_)
          refine rz_puti d_X_read_40 f_11_61 rfl rfl rfl ?_
          refine rz_pure (pc' := 44) d_X_read_43 rfl ?_
          refine rz_pure (pc' := 45) d_X_read_44 rfl ?_
          refine rz_getr d_X_read_45 f_11_19 rfl rfl ?_
          refine rz_getiv (v := Sq8.2 3 3) d_X_read_48 f_11_115 rfl rfl ((rz_uI_n (fun h => absurd h.2 (by decide))).trans rfl) ?_
          refine rz_puti d_X_read_51 f_11_65 rfl rfl (rz_bfit q8.1) ?_
          refine rz_pure (pc' := 55) d_X_read_54 rfl ?_
          refine rz_getiv (v := xq8) d_X_read_55 f_11_61 rfl rfl ((rz_uI_n (fun h => absurd h.2 (by decide))).trans rz_uI_s) ?_
          exact rz_ireti d_X_read_58 rfl rfl q8.2
      · skip
        refine rz_iconst (v := -1) d_X_read_19 (by decide) ?_
        exact rz_ireti d_X_read_20 rfl rfl (((q1.2 b2).2 b3).2 b4)
theorem p_X_out_0 {S : rz_S} {K : Int32 → rz_S → Prop} {a1 : Int32} (w : ((a1 < 0 → K (-1) S) ∧ (¬ a1 < 0 → ((S.2 0 7 ≤ a1 → K (-1) S) ∧ (¬ S.2 0 7 ≤ a1 → ((300 ≤ a1 → K (-1) S) ∧ (¬ 300 ≤ a1 → rx_in a1 300 = true ∧ K (S.1 115 a1.toNatClampNeg) S))))))) : rz mX_out 0 [(0, .ref 0), (1, .int a1)] [] S (rz_i K) := by
  refine rz_pure (pc' := 1) d_X_out_0 rfl ?_
  refine rz_iflt (tgt := 30) d_X_out_1 rfl (fun b1 => ?_) (fun b1 => ?_)
  · skip
    refine rz_iconst (v := -1) d_X_out_30 (by decide) ?_
    exact rz_ireti d_X_out_31 rfl rfl (w.1 b1)
  · skip
    refine rz_pure (pc' := 5) d_X_out_4 rfl ?_
    refine rz_pure (pc' := 6) d_X_out_5 rfl ?_
    refine rz_getiv (v := S.2 0 7) d_X_out_6 f_11_61 rfl rfl rfl ?_
    refine rz_icmpge (tgt := 30) d_X_out_9 rfl (fun b2 => ?_) (fun b2 => ?_)
    · skip
      refine rz_iconst (v := -1) d_X_out_30 (by decide) ?_
      exact rz_ireti d_X_out_31 rfl rfl ((w.2 b1).1 b2)
    · skip
      refine rz_pure (pc' := 13) d_X_out_12 rfl ?_
      refine rz_pure (pc' := 14) d_X_out_13 rfl ?_
      refine rz_getr d_X_out_14 f_11_57 rfl rfl ?_
      refine rz_alenv (v := 300) d_X_out_17 rfl (by decide) rfl ?_
      refine rz_icmpge (tgt := 30) d_X_out_18 rfl (fun b3 => ?_) (fun b3 => ?_)
      · skip
        refine rz_iconst (v := -1) d_X_out_30 (by decide) ?_
        exact rz_ireti d_X_out_31 rfl rfl (((w.2 b1).2 b2).1 b3)
      · skip
        refine rz_pure (pc' := 22) d_X_out_21 rfl ?_
        refine rz_getr d_X_out_22 f_11_57 rfl rfl ?_
        refine rz_pure (pc' := 26) d_X_out_25 rfl ?_
        refine rz_ialdv (F := S.1 115) (i := a1.toNatClampNeg) d_X_out_26 rfl (((w.2 b1).2 b2).2 b3).1 rfl rfl ?_
        refine rz_pure (pc' := 31) d_X_out_27 rfl ?_
        exact rz_ireti d_X_out_31 rfl rfl (((w.2 b1).2 b2).2 b3).2
theorem p_X_look_0 {S : rz_S} {K : Int32 → rz_S → Prop} {a1 : Int32} (w : ((a1.toInt < 0 ∨ 14 < a1.toInt → K (-1) S) ∧ (a1 = 0 → K (S.2 3 0) S) ∧ (a1 = 1 → K (S.2 3 1) S) ∧ (a1 = 2 → K (S.2 3 2) S) ∧ (a1 = 3 → ((S.2 0 8 = 0 → K 0 S) ∧ (¬ S.2 0 8 = 0 → K 1 S))) ∧ (a1 = 4 → K (S.2 1 1) S) ∧ (a1 = 5 → K (S.2 6 1) S) ∧ (a1 = 6 → K (S.2 6 2) S) ∧ (a1 = 7 → rz_ev mDos_countOpen [.ref 39] S (rz_i (fun xq2 Sq2 => K xq2 Sq2))) ∧ (a1 = 8 → K (S.2 37 0) S) ∧ (a1 = 9 → K (S.2 37 1) S) ∧ (a1 = 10 → K (S.2 37 2) S) ∧ (a1 = 11 → K (S.2 37 3) S) ∧ (a1 = 12 → K (S.2 37 4) S) ∧ (a1 = 13 → K (S.2 37 5) S) ∧ (a1 = 14 → K (S.2 37 6) S))) : rz mX_look 0 [(0, .ref 0), (1, .int a1)] [] S (rz_i K) := by
  refine rz_pure (pc' := 1) d_X_look_0 rfl ?_
  refine rz_tsw (n := 15) (lo := 0) (tgt := 201) d_X_look_1 rfl rfl (fun b0 => ?_) (fun j hj hx => ?_)
  · skip
    refine rz_iconst (v := -1) d_X_look_201 (by decide) ?_
    exact rz_ireti d_X_look_202 rfl rfl (w.1 b0)
  · match j, hj with
    | 0, _ =>
      replace hx := hx.trans (show Int32.ofInt ((0 : Int) + ((0 : Nat) : Int)) = 0 from by decide)
      refine rz_tsj (tgt := 76) d_X_look_1 hx rfl ?_
      refine rz_pure (pc' := 77) d_X_look_76 rfl ?_
      refine rz_getr d_X_look_77 f_11_19 rfl rfl ?_
      refine rz_getiv (v := S.2 3 0) d_X_look_80 f_11_84 rfl rfl rfl ?_
      exact rz_ireti d_X_look_83 rfl rfl (w.2.1 hx)
    | 1, _ =>
      replace hx := hx.trans (show Int32.ofInt ((0 : Int) + ((1 : Nat) : Int)) = 1 from by decide)
      refine rz_tsj (tgt := 84) d_X_look_1 hx rfl ?_
      refine rz_pure (pc' := 85) d_X_look_84 rfl ?_
      refine rz_getr d_X_look_85 f_11_19 rfl rfl ?_
      refine rz_getiv (v := S.2 3 1) d_X_look_88 f_11_122 rfl rfl rfl ?_
      exact rz_ireti d_X_look_91 rfl rfl (w.2.2.1 hx)
    | 2, _ =>
      replace hx := hx.trans (show Int32.ofInt ((0 : Int) + ((2 : Nat) : Int)) = 2 from by decide)
      refine rz_tsj (tgt := 92) d_X_look_1 hx rfl ?_
      refine rz_pure (pc' := 93) d_X_look_92 rfl ?_
      refine rz_getr d_X_look_93 f_11_19 rfl rfl ?_
      refine rz_getiv (v := S.2 3 2) d_X_look_96 f_11_125 rfl rfl rfl ?_
      exact rz_ireti d_X_look_99 rfl rfl (w.2.2.2.1 hx)
    | 3, _ =>
      replace hx := hx.trans (show Int32.ofInt ((0 : Int) + ((3 : Nat) : Int)) = 3 from by decide)
      refine rz_tsj (tgt := 100) d_X_look_1 hx rfl ?_
      refine rz_pure (pc' := 101) d_X_look_100 rfl ?_
      refine rz_getiv (v := S.2 0 8) d_X_look_101 f_11_65 rfl rfl rfl ?_
      refine rz_ifeq (tgt := 111) d_X_look_104 rfl (fun b1 => ?_) (fun b1 => ?_)
      · skip
        refine rz_iconst (v := 0) d_X_look_111 (by decide) ?_
        exact rz_ireti d_X_look_112 rfl rfl ((w.2.2.2.2.1 hx).1 b1)
      · skip
        refine rz_iconst (v := 1) d_X_look_107 (by decide) ?_
        refine rz_pure (pc' := 112) d_X_look_108 rfl ?_
        exact rz_ireti d_X_look_112 rfl rfl ((w.2.2.2.2.1 hx).2 b1)
    | 4, _ =>
      replace hx := hx.trans (show Int32.ofInt ((0 : Int) + ((4 : Nat) : Int)) = 4 from by decide)
      refine rz_tsj (tgt := 113) d_X_look_1 hx rfl ?_
      refine rz_pure (pc' := 114) d_X_look_113 rfl ?_
      refine rz_getr d_X_look_114 f_11_10 rfl rfl ?_
      refine rz_getiv (v := S.2 1 1) d_X_look_117 f_11_69 rfl rfl rfl ?_
      exact rz_ireti d_X_look_120 rfl rfl (w.2.2.2.2.2.1 hx)
    | 5, _ =>
      replace hx := hx.trans (show Int32.ofInt ((0 : Int) + ((5 : Nat) : Int)) = 5 from by decide)
      refine rz_tsj (tgt := 121) d_X_look_1 hx rfl ?_
      refine rz_pure (pc' := 122) d_X_look_121 rfl ?_
      refine rz_getr d_X_look_122 f_11_28 rfl rfl ?_
      refine rz_getiv (v := S.2 6 1) d_X_look_125 f_11_128 rfl rfl rfl ?_
      exact rz_ireti d_X_look_128 rfl rfl (w.2.2.2.2.2.2.1 hx)
    | 6, _ =>
      replace hx := hx.trans (show Int32.ofInt ((0 : Int) + ((6 : Nat) : Int)) = 6 from by decide)
      refine rz_tsj (tgt := 129) d_X_look_1 hx rfl ?_
      refine rz_pure (pc' := 130) d_X_look_129 rfl ?_
      refine rz_getr d_X_look_130 f_11_28 rfl rfl ?_
      refine rz_getiv (v := S.2 6 2) d_X_look_133 f_11_131 rfl rfl rfl ?_
      exact rz_ireti d_X_look_136 rfl rfl (w.2.2.2.2.2.2.2.1 hx)
    | 7, _ =>
      replace hx := hx.trans (show Int32.ofInt ((0 : Int) + ((7 : Nat) : Int)) = 7 from by decide)
      refine rz_tsj (tgt := 137) d_X_look_1 hx rfl ?_
      refine rz_pure (pc' := 138) d_X_look_137 rfl ?_
      refine rz_getr d_X_look_138 f_11_44 rfl rfl ?_
      refine rz_callVi (t := []) d_X_look_141 w_11_134 rfl rfl rfl (w.2.2.2.2.2.2.2.2.1 hx) (fun xq2 Sq2 q2 => ?_)
      exact rz_ireti d_X_look_144 rfl rfl q2
    | 8, _ =>
      replace hx := hx.trans (show Int32.ofInt ((0 : Int) + ((8 : Nat) : Int)) = 8 from by decide)
      refine rz_tsj (tgt := 145) d_X_look_1 hx rfl ?_
      refine rz_pure (pc' := 146) d_X_look_145 rfl ?_
      refine rz_getr d_X_look_146 f_11_35 rfl rfl ?_
      refine rz_getiv (v := S.2 37 0) d_X_look_149 f_11_137 rfl rfl rfl ?_
      exact rz_ireti d_X_look_152 rfl rfl (w.2.2.2.2.2.2.2.2.2.1 hx)
    | 9, _ =>
      replace hx := hx.trans (show Int32.ofInt ((0 : Int) + ((9 : Nat) : Int)) = 9 from by decide)
      refine rz_tsj (tgt := 153) d_X_look_1 hx rfl ?_
      refine rz_pure (pc' := 154) d_X_look_153 rfl ?_
      refine rz_getr d_X_look_154 f_11_35 rfl rfl ?_
      refine rz_getiv (v := S.2 37 1) d_X_look_157 f_11_140 rfl rfl rfl ?_
      exact rz_ireti d_X_look_160 rfl rfl (w.2.2.2.2.2.2.2.2.2.2.1 hx)
    | 10, _ =>
      replace hx := hx.trans (show Int32.ofInt ((0 : Int) + ((10 : Nat) : Int)) = 10 from by decide)
      refine rz_tsj (tgt := 161) d_X_look_1 hx rfl ?_
      refine rz_pure (pc' := 162) d_X_look_161 rfl ?_
      refine rz_getr d_X_look_162 f_11_35 rfl rfl ?_
      refine rz_getiv (v := S.2 37 2) d_X_look_165 f_11_143 rfl rfl rfl ?_
      exact rz_ireti d_X_look_168 rfl rfl (w.2.2.2.2.2.2.2.2.2.2.2.1 hx)
    | 11, _ =>
      replace hx := hx.trans (show Int32.ofInt ((0 : Int) + ((11 : Nat) : Int)) = 11 from by decide)
      refine rz_tsj (tgt := 169) d_X_look_1 hx rfl ?_
      refine rz_pure (pc' := 170) d_X_look_169 rfl ?_
      refine rz_getr d_X_look_170 f_11_35 rfl rfl ?_
      refine rz_getiv (v := S.2 37 3) d_X_look_173 f_11_146 rfl rfl rfl ?_
      exact rz_ireti d_X_look_176 rfl rfl (w.2.2.2.2.2.2.2.2.2.2.2.2.1 hx)
    | 12, _ =>
      replace hx := hx.trans (show Int32.ofInt ((0 : Int) + ((12 : Nat) : Int)) = 12 from by decide)
      refine rz_tsj (tgt := 177) d_X_look_1 hx rfl ?_
      refine rz_pure (pc' := 178) d_X_look_177 rfl ?_
      refine rz_getr d_X_look_178 f_11_35 rfl rfl ?_
      refine rz_getiv (v := S.2 37 4) d_X_look_181 f_11_149 rfl rfl rfl ?_
      exact rz_ireti d_X_look_184 rfl rfl (w.2.2.2.2.2.2.2.2.2.2.2.2.2.1 hx)
    | 13, _ =>
      replace hx := hx.trans (show Int32.ofInt ((0 : Int) + ((13 : Nat) : Int)) = 13 from by decide)
      refine rz_tsj (tgt := 185) d_X_look_1 hx rfl ?_
      refine rz_pure (pc' := 186) d_X_look_185 rfl ?_
      refine rz_getr d_X_look_186 f_11_35 rfl rfl ?_
      refine rz_getiv (v := S.2 37 5) d_X_look_189 f_11_152 rfl rfl rfl ?_
      exact rz_ireti d_X_look_192 rfl rfl (w.2.2.2.2.2.2.2.2.2.2.2.2.2.2.1 hx)
    | 14, _ =>
      replace hx := hx.trans (show Int32.ofInt ((0 : Int) + ((14 : Nat) : Int)) = 14 from by decide)
      refine rz_tsj (tgt := 193) d_X_look_1 hx rfl ?_
      refine rz_pure (pc' := 194) d_X_look_193 rfl ?_
      refine rz_getr d_X_look_194 f_11_35 rfl rfl ?_
      refine rz_getiv (v := S.2 37 6) d_X_look_197 f_11_155 rfl rfl rfl ?_
      exact rz_ireti d_X_look_200 rfl rfl (w.2.2.2.2.2.2.2.2.2.2.2.2.2.2.2 hx)
    | j + 15, h => exact absurd h (by omega)
theorem d_X_bits_0 : decode (rm_code mX_bits) 0 = .ok (.aload_n 0, 1) := by decide +kernel
theorem d_X_bits_1 : decode (rm_code mX_bits) 1 = .ok (.getfield 28, 3) := by decide +kernel
theorem d_X_bits_4 : decode (rm_code mX_bits) 4 = .ok (.iload_n 1, 1) := by decide +kernel
theorem d_X_bits_5 : decode (rm_code mX_bits) 5 = .ok (.invokevirtual 158, 3) := by decide +kernel
theorem d_X_bits_8 : decode (rm_code mX_bits) 8 = .ok (.astore_n 3, 1) := by decide +kernel
theorem d_X_bits_9 : decode (rm_code mX_bits) 9 = .ok (.aload_n 3, 1) := by decide +kernel
theorem d_X_bits_10 : decode (rm_code mX_bits) 10 = .ok (.ifnull (19), 3) := by decide +kernel
theorem d_X_bits_13 : decode (rm_code mX_bits) 13 = .ok (.aload_n 3, 1) := by decide +kernel
theorem d_X_bits_14 : decode (rm_code mX_bits) 14 = .ok (.iload_n 2, 1) := by decide +kernel
theorem d_X_bits_15 : decode (rm_code mX_bits) 15 = .ok (.invokevirtual 162, 3) := by decide +kernel
theorem d_X_bits_18 : decode (rm_code mX_bits) 18 = .ok (.ifCond .eq (11), 3) := by decide +kernel
theorem d_X_bits_21 : decode (rm_code mX_bits) 21 = .ok (.aload_n 3, 1) := by decide +kernel
theorem d_X_bits_22 : decode (rm_code mX_bits) 22 = .ok (.iload_n 2, 1) := by decide +kernel
theorem d_X_bits_23 : decode (rm_code mX_bits) 23 = .ok (.invokevirtual 167, 3) := by decide +kernel
theorem d_X_bits_26 : decode (rm_code mX_bits) 26 = .ok (.goto (4), 3) := by decide +kernel
theorem d_X_bits_29 : decode (rm_code mX_bits) 29 = .ok (.iconst 0, 1) := by decide +kernel
theorem d_X_bits_30 : decode (rm_code mX_bits) 30 = .ok (.ireturn, 1) := by decide +kernel
theorem p_X_bits_0 {S : rz_S} {K : Int32 → rz_S → Prop} {a1 : Int32} {a2 : Int32} (w : rz_ev mDisk_ring [.ref 6, .int a1] S (rz_r (fun xq1 Sq1 => rz mX_bits 8 [(2, .int a2)] (xq1 :: []) Sq1 (rz_i K)))) : rz mX_bits 0 [(0, .ref 0), (1, .int a1), (2, .int a2)] [] S (rz_i K) := by
  refine rz_pure (pc' := 1) d_X_bits_0 rfl ?_
  refine rz_getr d_X_bits_1 f_11_28 rfl rfl ?_
  refine rz_pure (pc' := 5) d_X_bits_4 rfl ?_
  refine rz_callVr (t := [.int a1]) d_X_bits_5 w_11_158 rfl rfl rfl w (fun xq1 Sq1 q1 => ?_)
  exact rz_pick (ks := [2]) (l := [(2, .int a2)]) rfl rfl (by decide) rfl q1
theorem p_X_bits_8 {S : rz_S} {K : Int32 → rz_S → Prop} {a2 : Int32} (w : K 0 S) : rz mX_bits 8 [(2, .int a2)] [.null] S (rz_i K) := by
  refine rz_pure (pc' := 9) (l' := [(3, .null), (2, .int a2)]) d_X_bits_8 rfl ?_
  refine rz_pure (pc' := 10) d_X_bits_9 rfl ?_
  refine rz_pure (pc' := 29) d_X_bits_10 rfl ?_
  refine rz_iconst (v := 0) d_X_bits_29 (by decide) ?_
  exact rz_ireti d_X_bits_30 rfl rfl w
theorem p_X_bits_8' {S : rz_S} {K : Int32 → rz_S → Prop} {a2 : Int32} {s0 : Nat} (hs0 : rgP s0) (w : rz_ev mRing_hasBit [.ref s0, .int a2] S (rz_i (fun xq1 Sq1 => ((xq1 = 0 → K 0 Sq1) ∧ (¬ xq1 = 0 → rz_ev mRing_word [.ref s0, .int a2] Sq1 (rz_i (fun xq3 Sq3 => K xq3 Sq3))))))) : rz mX_bits 8 [(2, .int a2)] [.ref s0] S (rz_i K) := by
  have zs0 := rgZ hs0
  refine rz_pure (pc' := 9) (l' := [(3, .ref s0), (2, .int a2)]) d_X_bits_8 rfl ?_
  refine rz_pure (pc' := 10) d_X_bits_9 rfl ?_
  refine rz_pure (pc' := 13) d_X_bits_10 rfl ?_
  refine rz_pure (pc' := 14) d_X_bits_13 rfl ?_
  refine rz_pure (pc' := 15) d_X_bits_14 rfl ?_
  refine rz_callVi (t := [.int a2]) d_X_bits_15 w_11_162 rfl (rgT hs0) rfl w (fun xq1 Sq1 q1 => ?_)
  refine rz_ifeq (tgt := 29) d_X_bits_18 rfl (fun b2 => ?_) (fun b2 => ?_)
  · skip
    refine rz_iconst (v := 0) d_X_bits_29 (by decide) ?_
    exact rz_ireti d_X_bits_30 rfl rfl (q1.1 b2)
  · skip
    refine rz_pure (pc' := 22) d_X_bits_21 rfl ?_
    refine rz_pure (pc' := 23) d_X_bits_22 rfl ?_
    refine rz_callVi (t := [.int a2]) d_X_bits_23 w_11_167 rfl (rgT hs0) rfl (q1.2 b2) (fun xq3 Sq3 q3 => ?_)
    refine rz_pure (pc' := 30) d_X_bits_26 rfl ?_
    exact rz_ireti d_X_bits_30 rfl rfl q3
theorem d_X_turn_0 : decode (rm_code mX_turn) 0 = .ok (.aload_n 0, 1) := by decide +kernel
theorem d_X_turn_1 : decode (rm_code mX_turn) 1 = .ok (.getfield 28, 3) := by decide +kernel
theorem d_X_turn_4 : decode (rm_code mX_turn) 4 = .ok (.iload_n 1, 1) := by decide +kernel
theorem d_X_turn_5 : decode (rm_code mX_turn) 5 = .ok (.invokevirtual 158, 3) := by decide +kernel
theorem d_X_turn_8 : decode (rm_code mX_turn) 8 = .ok (.astore 4, 2) := by decide +kernel
theorem d_X_turn_10 : decode (rm_code mX_turn) 10 = .ok (.aload 4, 2) := by decide +kernel
theorem d_X_turn_12 : decode (rm_code mX_turn) 12 = .ok (.ifnull (12), 3) := by decide +kernel
theorem d_X_turn_15 : decode (rm_code mX_turn) 15 = .ok (.aload 4, 2) := by decide +kernel
theorem d_X_turn_17 : decode (rm_code mX_turn) 17 = .ok (.iload_n 2, 1) := by decide +kernel
theorem d_X_turn_18 : decode (rm_code mX_turn) 18 = .ok (.invokevirtual 162, 3) := by decide +kernel
theorem d_X_turn_21 : decode (rm_code mX_turn) 21 = .ok (.ifCond .ne (5), 3) := by decide +kernel
theorem d_X_turn_24 : decode (rm_code mX_turn) 24 = .ok (.iconst 0, 1) := by decide +kernel
theorem d_X_turn_25 : decode (rm_code mX_turn) 25 = .ok (.ireturn, 1) := by decide +kernel
theorem d_X_turn_26 : decode (rm_code mX_turn) 26 = .ok (.aload 4, 2) := by decide +kernel
theorem d_X_turn_28 : decode (rm_code mX_turn) 28 = .ok (.iload_n 2, 1) := by decide +kernel
theorem d_X_turn_29 : decode (rm_code mX_turn) 29 = .ok (.iload_n 3, 1) := by decide +kernel
theorem d_X_turn_30 : decode (rm_code mX_turn) 30 = .ok (.invokevirtual 170, 3) := by decide +kernel
theorem d_X_turn_33 : decode (rm_code mX_turn) 33 = .ok (.iconst 1, 1) := by decide +kernel
theorem d_X_turn_34 : decode (rm_code mX_turn) 34 = .ok (.ireturn, 1) := by decide +kernel
theorem p_X_turn_0 {S : rz_S} {K : Int32 → rz_S → Prop} {a1 : Int32} {a2 : Int32} {a3 : Int32} (w : rz_ev mDisk_ring [.ref 6, .int a1] S (rz_r (fun xq1 Sq1 => rz mX_turn 8 [(2, .int a2), (3, .int a3)] (xq1 :: []) Sq1 (rz_i K)))) : rz mX_turn 0 [(0, .ref 0), (1, .int a1), (2, .int a2), (3, .int a3)] [] S (rz_i K) := by
  refine rz_pure (pc' := 1) d_X_turn_0 rfl ?_
  refine rz_getr d_X_turn_1 f_11_28 rfl rfl ?_
  refine rz_pure (pc' := 5) d_X_turn_4 rfl ?_
  refine rz_callVr (t := [.int a1]) d_X_turn_5 w_11_158 rfl rfl rfl w (fun xq1 Sq1 q1 => ?_)
  exact rz_pick (ks := [2, 3]) (l := [(2, .int a2), (3, .int a3)]) rfl rfl (by decide) rfl q1
theorem p_X_turn_8 {S : rz_S} {K : Int32 → rz_S → Prop} {a2 : Int32} {a3 : Int32} (w : K 0 S) : rz mX_turn 8 [(2, .int a2), (3, .int a3)] [.null] S (rz_i K) := by
  refine rz_pure (pc' := 10) (l' := [(4, .null), (2, .int a2), (3, .int a3)]) d_X_turn_8 rfl ?_
  refine rz_pure (pc' := 12) d_X_turn_10 rfl ?_
  refine rz_pure (pc' := 24) d_X_turn_12 rfl ?_
  refine rz_iconst (v := 0) d_X_turn_24 (by decide) ?_
  exact rz_ireti d_X_turn_25 rfl (by decide) w
theorem p_X_turn_8' {S : rz_S} {K : Int32 → rz_S → Prop} {a2 : Int32} {a3 : Int32} {s0 : Nat} (hs0 : rgP s0) (w : rz_ev mRing_hasBit [.ref s0, .int a2] S (rz_i (fun xq1 Sq1 => ((xq1 = 0 → K 0 Sq1) ∧ (¬ xq1 = 0 → rz_ev mRing_flip [.ref s0, .int a2, .int a3] Sq1 (rz_v (fun Sq3 => K 1 Sq3))))))) : rz mX_turn 8 [(2, .int a2), (3, .int a3)] [.ref s0] S (rz_i K) := by
  have zs0 := rgZ hs0
  refine rz_pure (pc' := 10) (l' := [(4, .ref s0), (2, .int a2), (3, .int a3)]) d_X_turn_8 rfl ?_
  refine rz_pure (pc' := 12) d_X_turn_10 rfl ?_
  refine rz_pure (pc' := 15) d_X_turn_12 rfl ?_
  refine rz_pure (pc' := 17) d_X_turn_15 rfl ?_
  refine rz_pure (pc' := 18) d_X_turn_17 rfl ?_
  refine rz_callVi (t := [.int a2]) d_X_turn_18 w_11_162 rfl (rgT hs0) rfl w (fun xq1 Sq1 q1 => ?_)
  refine rz_ifne (tgt := 26) d_X_turn_21 rfl (fun b2 => ?_) (fun b2 => ?_)
  · skip
    refine rz_pure (pc' := 28) d_X_turn_26 rfl ?_
    refine rz_pure (pc' := 29) d_X_turn_28 rfl ?_
    refine rz_pure (pc' := 30) d_X_turn_29 rfl ?_
    refine rz_callVv (t := [.int a3, .int a2]) d_X_turn_30 w_11_170 rfl (rgT hs0) rfl (q1.2 b2) (fun Sq3 q3 => ?_)
    refine rz_iconst (v := 1) d_X_turn_33 (by decide) ?_
    exact rz_ireti d_X_turn_34 rfl (by decide) q3
  · skip
    refine rz_iconst (v := 0) d_X_turn_24 (by decide) ?_
    exact rz_ireti d_X_turn_25 rfl (by decide) (q1.1 b2)
theorem p_X_protect_0 {S : rz_S} {K : rz_S → Prop} {a1 : Int32} (w : (a1 = 0 ∨ a1 = 1) ∧ K (rz_uI S 6 0 a1)) : rz mX_protect 0 [(0, .ref 0), (1, .int a1)] [] S (rz_v K) := by
  refine rz_pure (pc' := 1) d_X_protect_0 rfl ?_
  refine rz_getr d_X_protect_1 f_11_28 rfl rfl ?_
  refine rz_pure (pc' := 5) d_X_protect_4 rfl ?_
  refine rz_puti d_X_protect_5 f_11_174 rfl rfl (rz_bfit w.1) ?_
  exact rz_vretv d_X_protect_8 rfl w.2
theorem p_X_power_0 {S : rz_S} {K : rz_S → Prop} (w : rz_ev mDos_dropAll [.ref 39] S (rz_v (fun Sq1 => rz_ev mDisk_dropId [.ref 6] Sq1 (rz_v (fun Sq2 => rz_ev mProcessor_reset [.ref 37] Sq2 (rz_v (fun Sq3 => rz_ev mStatus_begin [.ref 3] Sq3 (rz_v (fun Sq4 => rz_ev mStatus_set [.ref 3, .int 73, .int 0, .int 0] Sq4 (rz_i (fun xq5 Sq5 => K (rz_uI (rz_uI Sq5 0 7 0) 0 8 0)))))))))))) : rz mX_power 0 [(0, .ref 0)] [] S (rz_v K) := by
  refine rz_pure (pc' := 1) d_X_power_0 rfl ?_
  refine rz_getr d_X_power_1 f_11_44 rfl rfl ?_
  refine rz_callVv (t := []) d_X_power_4 w_11_177 rfl rfl rfl w (fun Sq1 q1 => ?_)
  refine rz_pure (pc' := 8) d_X_power_7 rfl ?_
  refine rz_getr d_X_power_8 f_11_28 rfl rfl ?_
  refine rz_callVv (t := []) d_X_power_11 w_11_180 rfl rfl rfl q1 (fun Sq2 q2 => ?_)
  refine rz_pure (pc' := 15) d_X_power_14 rfl ?_
  refine rz_getr d_X_power_15 f_11_35 rfl rfl ?_
  refine rz_callVv (t := []) d_X_power_18 w_11_183 rfl rfl rfl q2 (fun Sq3 q3 => ?_)
  refine rz_pure (pc' := 22) d_X_power_21 rfl ?_
  refine rz_getr d_X_power_22 f_11_19 rfl rfl ?_
  refine rz_callVv (t := []) d_X_power_25 w_11_87 rfl rfl rfl q3 (fun Sq4 q4 => ?_)
  refine rz_pure (pc' := 29) d_X_power_28 rfl ?_
  refine rz_getr d_X_power_29 f_11_19 rfl rfl ?_
  refine rz_bipush (v := 73) d_X_power_32 (by decide) ?_
  refine rz_iconst (v := 0) d_X_power_34 (by decide) ?_
  refine rz_iconst (v := 0) d_X_power_35 (by decide) ?_
  refine rz_callVi (t := [.int 0, .int 0, .int 73]) d_X_power_36 w_11_90 rfl rfl rfl q4 (fun xq5 Sq5 q5 => ?_)
  refine rz_pure (pc' := 40) d_X_power_39 rfl ?_
  refine rz_pure (pc' := 41) d_X_power_40 rfl ?_
  refine rz_iconst (v := 0) d_X_power_41 (by decide) ?_
  refine rz_puti d_X_power_42 f_11_61 rfl rfl rfl ?_
  refine rz_pure (pc' := 46) d_X_power_45 rfl ?_
  refine rz_iconst (v := 0) d_X_power_46 (by decide) ?_
  refine rz_puti d_X_power_47 f_11_65 rfl rfl (by decide) ?_
  exact rz_vretv d_X_power_50 rfl q5
theorem p_X_memory_0 {S : rz_S} {K : Int32 → rz_S → Prop} {a1 : Int32} (w : ((a1 < 0 → K (-1) S) ∧ (¬ a1 < 0 → ((2048 ≤ a1 → K (-1) S) ∧ (¬ 2048 ≤ a1 → rz_ev mProcessor_get [.ref 37, .int a1] S (rz_i (fun xq3 Sq3 => K xq3 Sq3))))))) : rz mX_memory 0 [(0, .ref 0), (1, .int a1)] [] S (rz_i K) := by
  refine rz_pure (pc' := 1) d_X_memory_0 rfl ?_
  refine rz_iflt (tgt := 22) d_X_memory_1 rfl (fun b1 => ?_) (fun b1 => ?_)
  · skip
    refine rz_iconst (v := -1) d_X_memory_22 (by decide) ?_
    exact rz_ireti d_X_memory_23 rfl rfl (w.1 b1)
  · skip
    refine rz_pure (pc' := 5) d_X_memory_4 rfl ?_
    refine rz_sipush (v := 2048) d_X_memory_5 (by decide) ?_
    refine rz_icmpge (tgt := 22) d_X_memory_8 rfl (fun b2 => ?_) (fun b2 => ?_)
    · skip
      refine rz_iconst (v := -1) d_X_memory_22 (by decide) ?_
      exact rz_ireti d_X_memory_23 rfl rfl ((w.2 b1).1 b2)
    · skip
      refine rz_pure (pc' := 12) d_X_memory_11 rfl ?_
      refine rz_getr d_X_memory_12 f_11_35 rfl rfl ?_
      refine rz_pure (pc' := 16) d_X_memory_15 rfl ?_
      refine rz_callVi (t := [.int a1]) d_X_memory_16 w_11_186 rfl rfl rfl ((w.2 b1).2 b2) (fun xq3 Sq3 q3 => ?_)
      refine rz_pure (pc' := 23) d_X_memory_19 rfl ?_
      exact rz_ireti d_X_memory_23 rfl rfl q3
