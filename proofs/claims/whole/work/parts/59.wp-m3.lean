/-! what each block of the code asks (printed by wpgen.py) -/
theorem d_M_sends_0 : decode (rm_code mM_sends) 0 = .ok (.iconst 0, 1) := by decide +kernel
theorem d_M_sends_1 : decode (rm_code mM_sends) 1 = .ok (.istore_n 2, 1) := by decide +kernel
theorem d_M_sends_2 : decode (rm_code mM_sends) 2 = .ok (.iload_n 2, 1) := by decide +kernel
theorem d_M_sends_3 : decode (rm_code mM_sends) 3 = .ok (.iload_n 1, 1) := by decide +kernel
theorem d_M_sends_4 : decode (rm_code mM_sends) 4 = .ok (.if_icmp .ge (25), 3) := by decide +kernel
theorem d_M_sends_7 : decode (rm_code mM_sends) 7 = .ok (.aload_n 0, 1) := by decide +kernel
theorem d_M_sends_8 : decode (rm_code mM_sends) 8 = .ok (.getfield 260, 3) := by decide +kernel
theorem d_M_sends_11 : decode (rm_code mM_sends) 11 = .ok (.iload_n 2, 1) := by decide +kernel
theorem d_M_sends_12 : decode (rm_code mM_sends) 12 = .ok (.aload_n 0, 1) := by decide +kernel
theorem d_M_sends_13 : decode (rm_code mM_sends) 13 = .ok (.getfield 251, 3) := by decide +kernel
theorem d_M_sends_16 : decode (rm_code mM_sends) 16 = .ok (.iload_n 2, 1) := by decide +kernel
theorem d_M_sends_17 : decode (rm_code mM_sends) 17 = .ok (.baload, 1) := by decide +kernel
theorem d_M_sends_18 : decode (rm_code mM_sends) 18 = .ok (.sipush (255), 3) := by decide +kernel
theorem d_M_sends_21 : decode (rm_code mM_sends) 21 = .ok (.iand, 1) := by decide +kernel
theorem d_M_sends_22 : decode (rm_code mM_sends) 22 = .ok (.iastore, 1) := by decide +kernel
theorem d_M_sends_23 : decode (rm_code mM_sends) 23 = .ok (.iinc 2 (1), 3) := by decide +kernel
theorem d_M_sends_26 : decode (rm_code mM_sends) 26 = .ok (.goto (-24), 3) := by decide +kernel
theorem d_M_sends_29 : decode (rm_code mM_sends) 29 = .ok (.aload_n 0, 1) := by decide +kernel
theorem d_M_sends_30 : decode (rm_code mM_sends) 30 = .ok (.getfield 260, 3) := by decide +kernel
theorem d_M_sends_33 : decode (rm_code mM_sends) 33 = .ok (.iload_n 1, 1) := by decide +kernel
theorem d_M_sends_34 : decode (rm_code mM_sends) 34 = .ok (.iconst 0, 1) := by decide +kernel
theorem d_M_sends_35 : decode (rm_code mM_sends) 35 = .ok (.iastore, 1) := by decide +kernel
theorem d_M_sends_36 : decode (rm_code mM_sends) 36 = .ok (.aload_n 0, 1) := by decide +kernel
theorem d_M_sends_37 : decode (rm_code mM_sends) 37 = .ok (.iconst 0, 1) := by decide +kernel
theorem d_M_sends_38 : decode (rm_code mM_sends) 38 = .ok (.putfield 254, 3) := by decide +kernel
theorem d_M_sends_41 : decode (rm_code mM_sends) 41 = .ok (.return_, 1) := by decide +kernel
theorem p_M_sends_0 {S : rz_S} {K : rz_S → Prop} {a1 : Int32} (w : rz mM_sends 2 [(0, .ref 116), (1, .int a1), (2, .int 0)] [] S (rz_v K)) : rz mM_sends 0 [(0, .ref 116), (1, .int a1)] [] S (rz_v K) := by
  refine rz_iconst (v := 0) d_M_sends_0 (by decide) ?_
  refine rz_pure (pc' := 2) (l' := [(2, .int 0), (0, .ref 116), (1, .int a1)]) d_M_sends_1 rfl ?_
  exact rz_pick (ks := [0, 1, 2]) (l := [(0, .ref 116), (1, .int a1), (2, .int 0)]) rfl rfl (by decide) rfl w
theorem p_M_sends_2 {S : rz_S} {K : rz_S → Prop} {a1 : Int32} {a2 : Int32} (w : ((a1 ≤ a2 → rx_in a1 401 = true ∧ K (rz_uI (rz_fA S 151 (upd (S.1 151) a1.toNatClampNeg 0)) 116 64 0)) ∧ (¬ a1 ≤ a2 → rx_in a2 400 = true ∧ rx_in a2 401 = true ∧ rz mM_sends 2 [(0, .ref 116), (1, .int a1), (2, .int (a2 + 1))] [] (rz_fA S 151 (upd (S.1 151) a2.toNatClampNeg ((S.1 150 a2.toNatClampNeg) &&& 255))) (rz_v K)))) : rz mM_sends 2 [(0, .ref 116), (1, .int a1), (2, .int a2)] [] S (rz_v K) := by
  refine rz_pure (pc' := 3) d_M_sends_2 rfl ?_
  refine rz_pure (pc' := 4) d_M_sends_3 rfl ?_
  refine rz_icmpge (tgt := 29) d_M_sends_4 rfl (fun b1 => ?_) (fun b1 => ?_)
  · skip
    refine rz_pure (pc' := 30) d_M_sends_29 rfl ?_
    refine rz_getr d_M_sends_30 f_12_260 rfl rfl ?_
    refine rz_pure (pc' := 34) d_M_sends_33 rfl ?_
    refine rz_iconst (v := 0) d_M_sends_34 (by decide) ?_
    refine rz_iastv (F := S.1 151) (i := a1.toNatClampNeg) d_M_sends_35 rfl (w.1 b1).1 rfl rfl ?_
    refine rz_pure (pc' := 37) d_M_sends_36 rfl ?_
    refine rz_iconst (v := 0) d_M_sends_37 (by decide) ?_
    refine rz_puti d_M_sends_38 f_12_254 rfl rfl rfl ?_
    exact rz_vretv d_M_sends_41 rfl (w.1 b1).2
  · skip
    refine rz_pure (pc' := 8) d_M_sends_7 rfl ?_
    refine rz_getr d_M_sends_8 f_12_260 rfl rfl ?_
    refine rz_pure (pc' := 12) d_M_sends_11 rfl ?_
    refine rz_pure (pc' := 13) d_M_sends_12 rfl ?_
    refine rz_getr d_M_sends_13 f_12_251 rfl rfl ?_
    refine rz_pure (pc' := 17) d_M_sends_16 rfl ?_
    refine rz_baldv (F := S.1 150) (i := a2.toNatClampNeg) d_M_sends_17 rfl (by decide) (w.2 b1).1 rfl rfl ?_
    refine rz_sipush (v := 255) d_M_sends_18 (by decide) ?_
    refine rz_iand d_M_sends_21 ?_
    refine rz_iastv (F := S.1 151) (i := a2.toNatClampNeg) d_M_sends_22 rfl (w.2 b1).2.1 rfl rfl ?_
    refine rz_pure (pc' := 26) (l' := [(2, .int (a2 + 1)), (0, .ref 116), (1, .int a1)]) d_M_sends_23 rfl ?_
    refine rz_pure (pc' := 2) d_M_sends_26 rfl ?_
    exact rz_pick (ks := [0, 1, 2]) (l := [(0, .ref 116), (1, .int a1), (2, .int (a2 + 1))]) rfl rfl (by decide) rfl (w.2 b1).2.2
theorem d_M_open_0 : decode (rm_code mM_open) 0 = .ok (.iload_n 1, 1) := by decide +kernel
theorem d_M_open_1 : decode (rm_code mM_open) 1 = .ok (.ifCond .lt (21), 3) := by decide +kernel
theorem d_M_open_4 : decode (rm_code mM_open) 4 = .ok (.iload_n 1, 1) := by decide +kernel
theorem d_M_open_5 : decode (rm_code mM_open) 5 = .ok (.bipush (15), 2) := by decide +kernel
theorem d_M_open_7 : decode (rm_code mM_open) 7 = .ok (.if_icmp .gt (15), 3) := by decide +kernel
theorem d_M_open_10 : decode (rm_code mM_open) 10 = .ok (.iload_n 2, 1) := by decide +kernel
theorem d_M_open_11 : decode (rm_code mM_open) 11 = .ok (.ifCond .lt (11), 3) := by decide +kernel
theorem d_M_open_14 : decode (rm_code mM_open) 14 = .ok (.iload_n 2, 1) := by decide +kernel
theorem d_M_open_15 : decode (rm_code mM_open) 15 = .ok (.aload_n 0, 1) := by decide +kernel
theorem d_M_open_16 : decode (rm_code mM_open) 16 = .ok (.getfield 254, 3) := by decide +kernel
theorem d_M_open_19 : decode (rm_code mM_open) 19 = .ok (.if_icmp .le (5), 3) := by decide +kernel
theorem d_M_open_22 : decode (rm_code mM_open) 22 = .ok (.iconst (-1), 1) := by decide +kernel
theorem d_M_open_23 : decode (rm_code mM_open) 23 = .ok (.ireturn, 1) := by decide +kernel
theorem d_M_open_24 : decode (rm_code mM_open) 24 = .ok (.aload_n 0, 1) := by decide +kernel
theorem d_M_open_25 : decode (rm_code mM_open) 25 = .ok (.iload_n 2, 1) := by decide +kernel
theorem d_M_open_26 : decode (rm_code mM_open) 26 = .ok (.invokevirtual 263, 3) := by decide +kernel
theorem d_M_open_29 : decode (rm_code mM_open) 29 = .ok (.iload_n 1, 1) := by decide +kernel
theorem d_M_open_30 : decode (rm_code mM_open) 30 = .ok (.bipush (15), 2) := by decide +kernel
theorem d_M_open_32 : decode (rm_code mM_open) 32 = .ok (.if_icmp .ne (9), 3) := by decide +kernel
theorem d_M_open_35 : decode (rm_code mM_open) 35 = .ok (.aload_n 0, 1) := by decide +kernel
theorem d_M_open_36 : decode (rm_code mM_open) 36 = .ok (.iload_n 2, 1) := by decide +kernel
theorem d_M_open_37 : decode (rm_code mM_open) 37 = .ok (.invokevirtual 266, 3) := by decide +kernel
theorem d_M_open_40 : decode (rm_code mM_open) 40 = .ok (.ireturn, 1) := by decide +kernel
theorem d_M_open_41 : decode (rm_code mM_open) 41 = .ok (.aload_n 0, 1) := by decide +kernel
theorem d_M_open_42 : decode (rm_code mM_open) 42 = .ok (.invokevirtual 269, 3) := by decide +kernel
theorem d_M_open_45 : decode (rm_code mM_open) 45 = .ok (.iload_n 2, 1) := by decide +kernel
theorem d_M_open_46 : decode (rm_code mM_open) 46 = .ok (.bipush (40), 2) := by decide +kernel
theorem d_M_open_48 : decode (rm_code mM_open) 48 = .ok (.if_icmp .le (16), 3) := by decide +kernel
theorem d_M_open_51 : decode (rm_code mM_open) 51 = .ok (.aload_n 0, 1) := by decide +kernel
theorem d_M_open_52 : decode (rm_code mM_open) 52 = .ok (.aload_n 0, 1) := by decide +kernel
theorem d_M_open_53 : decode (rm_code mM_open) 53 = .ok (.bipush (32), 2) := by decide +kernel
theorem d_M_open_55 : decode (rm_code mM_open) 55 = .ok (.iconst 0, 1) := by decide +kernel
theorem d_M_open_56 : decode (rm_code mM_open) 56 = .ok (.iconst 0, 1) := by decide +kernel
theorem d_M_open_57 : decode (rm_code mM_open) 57 = .ok (.invokevirtual 113, 3) := by decide +kernel
theorem d_M_open_60 : decode (rm_code mM_open) 60 = .ok (.invokevirtual 272, 3) := by decide +kernel
theorem d_M_open_63 : decode (rm_code mM_open) 63 = .ok (.ireturn, 1) := by decide +kernel
theorem d_M_open_64 : decode (rm_code mM_open) 64 = .ok (.aload_n 0, 1) := by decide +kernel
theorem d_M_open_65 : decode (rm_code mM_open) 65 = .ok (.aload_n 0, 1) := by decide +kernel
theorem d_M_open_66 : decode (rm_code mM_open) 66 = .ok (.iload_n 1, 1) := by decide +kernel
theorem d_M_open_67 : decode (rm_code mM_open) 67 = .ok (.iload_n 2, 1) := by decide +kernel
theorem d_M_open_68 : decode (rm_code mM_open) 68 = .ok (.invokevirtual 275, 3) := by decide +kernel
theorem d_M_open_71 : decode (rm_code mM_open) 71 = .ok (.invokevirtual 272, 3) := by decide +kernel
theorem d_M_open_74 : decode (rm_code mM_open) 74 = .ok (.ireturn, 1) := by decide +kernel
theorem p_M_open_0 {S : rz_S} {K : Int32 → rz_S → Prop} {a1 : Int32} {a2 : Int32} (w : ((a1 < 0 → K (-1) S) ∧ (¬ a1 < 0 → ((15 < a1 → K (-1) S) ∧ (¬ 15 < a1 → ((a2 < 0 → K (-1) S) ∧ (¬ a2 < 0 → ((a2 ≤ S.2 116 64 → rz_ev mM_sends [.ref 116, .int a2] S (rz_v (fun Sq5 => ((a1 = 15 → rz_ev mM_commands [.ref 116, .int a2] Sq5 (rz_i (fun xq13 Sq13 => K xq13 Sq13))) ∧ (¬ a1 = 15 → rz_ev mM_begins [.ref 116] Sq5 (rz_v (fun Sq7 => ((a2 ≤ 40 → rz_ev mM_opens [.ref 116, .int a1, .int a2] Sq7 (rz_i (fun xq9 Sq9 => rz_ev mM_ends [.ref 116, .int xq9] Sq9 (rz_i (fun xq10 Sq10 => K xq10 Sq10))))) ∧ (¬ a2 ≤ 40 → rz_ev mM_fault [.ref 116, .int 32, .int 0, .int 0] Sq7 (rz_i (fun xq11 Sq11 => rz_ev mM_ends [.ref 116, .int xq11] Sq11 (rz_i (fun xq12 Sq12 => K xq12 Sq12))))))))))))) ∧ (¬ a2 ≤ S.2 116 64 → K (-1) S))))))))) : rz mM_open 0 [(0, .ref 116), (1, .int a1), (2, .int a2)] [] S (rz_i K) := by
  refine rz_pure (pc' := 1) d_M_open_0 rfl ?_
  refine rz_iflt (tgt := 22) d_M_open_1 rfl (fun b1 => ?_) (fun b1 => ?_)
  · skip
    refine rz_iconst (v := -1) d_M_open_22 (by decide) ?_
    exact rz_ireti d_M_open_23 rfl rfl (w.1 b1)
  · skip
    refine rz_pure (pc' := 5) d_M_open_4 rfl ?_
    refine rz_bipush (v := 15) d_M_open_5 (by decide) ?_
    refine rz_icmpgt (tgt := 22) d_M_open_7 rfl (fun b2 => ?_) (fun b2 => ?_)
    · skip
      refine rz_iconst (v := -1) d_M_open_22 (by decide) ?_
      exact rz_ireti d_M_open_23 rfl rfl ((w.2 b1).1 b2)
    · skip
      refine rz_pure (pc' := 11) d_M_open_10 rfl ?_
      refine rz_iflt (tgt := 22) d_M_open_11 rfl (fun b3 => ?_) (fun b3 => ?_)
      · skip
        refine rz_iconst (v := -1) d_M_open_22 (by decide) ?_
        exact rz_ireti d_M_open_23 rfl rfl (((w.2 b1).2 b2).1 b3)
      · skip
        refine rz_pure (pc' := 15) d_M_open_14 rfl ?_
        refine rz_pure (pc' := 16) d_M_open_15 rfl ?_
        refine rz_getiv (v := S.2 116 64) d_M_open_16 f_12_254 rfl rfl rfl ?_
        refine rz_icmple (tgt := 24) d_M_open_19 rfl (fun b4 => ?_) (fun b4 => ?_)
        · skip
          refine rz_pure (pc' := 25) d_M_open_24 rfl ?_
          refine rz_pure (pc' := 26) d_M_open_25 rfl ?_
          refine rz_callVv (t := [.int a2]) d_M_open_26 w_12_263 rfl rfl rfl ((((w.2 b1).2 b2).2 b3).1 b4) (fun Sq5 q5 => ?_)
          refine rz_pure (pc' := 30) d_M_open_29 rfl ?_
          refine rz_bipush (v := 15) d_M_open_30 (by decide) ?_
          refine rz_icmpne (tgt := 41) d_M_open_32 rfl (fun b6 => ?_) (fun b6 => ?_)
          · skip
            refine rz_pure (pc' := 42) d_M_open_41 rfl ?_
            refine rz_callVv (t := []) d_M_open_42 w_12_269 rfl rfl rfl (q5.2 b6) (fun Sq7 q7 => ?_)
            refine rz_pure (pc' := 46) d_M_open_45 rfl ?_
            refine rz_bipush (v := 40) d_M_open_46 (by decide) ?_
            refine rz_icmple (tgt := 64) d_M_open_48 rfl (fun b8 => ?_) (fun b8 => ?_)
            · skip
              refine rz_pure (pc' := 65) d_M_open_64 rfl ?_
              refine rz_pure (pc' := 66) d_M_open_65 rfl ?_
              refine rz_pure (pc' := 67) d_M_open_66 rfl ?_
              refine rz_pure (pc' := 68) d_M_open_67 rfl ?_
              refine rz_callVi (t := [.int a2, .int a1]) d_M_open_68 w_12_275 rfl rfl rfl (q7.1 b8) (fun xq9 Sq9 q9 => ?_)
              refine rz_callVi (t := [.int xq9]) d_M_open_71 w_12_272 rfl rfl rfl q9 (fun xq10 Sq10 q10 => ?_)
              exact rz_ireti d_M_open_74 rfl rfl q10
            · skip
              refine rz_pure (pc' := 52) d_M_open_51 rfl ?_
              refine rz_pure (pc' := 53) d_M_open_52 rfl ?_
              refine rz_bipush (v := 32) d_M_open_53 (by decide) ?_
              refine rz_iconst (v := 0) d_M_open_55 (by decide) ?_
              refine rz_iconst (v := 0) d_M_open_56 (by decide) ?_
              refine rz_callVi (t := [.int 0, .int 0, .int 32]) d_M_open_57 w_12_113 rfl rfl rfl (q7.2 b8) (fun xq11 Sq11 q11 => ?_)
              refine rz_callVi (t := [.int xq11]) d_M_open_60 w_12_272 rfl rfl rfl q11 (fun xq12 Sq12 q12 => ?_)
              exact rz_ireti d_M_open_63 rfl rfl q12
          · skip
            refine rz_pure (pc' := 36) d_M_open_35 rfl ?_
            refine rz_pure (pc' := 37) d_M_open_36 rfl ?_
            refine rz_callVi (t := [.int a2]) d_M_open_37 w_12_266 rfl rfl rfl (q5.1 b6) (fun xq13 Sq13 q13 => ?_)
            exact rz_ireti d_M_open_40 rfl rfl q13
        · skip
          refine rz_iconst (v := -1) d_M_open_22 (by decide) ?_
          exact rz_ireti d_M_open_23 rfl rfl ((((w.2 b1).2 b2).2 b3).2 b4)
theorem d_M_opens_0 : decode (rm_code mM_opens) 0 = .ok (.aload_n 0, 1) := by decide +kernel
theorem d_M_opens_1 : decode (rm_code mM_opens) 1 = .ok (.getfield 248, 3) := by decide +kernel
theorem d_M_opens_4 : decode (rm_code mM_opens) 4 = .ok (.iload_n 1, 1) := by decide +kernel
theorem d_M_opens_5 : decode (rm_code mM_opens) 5 = .ok (.iaload, 1) := by decide +kernel
theorem d_M_opens_6 : decode (rm_code mM_opens) 6 = .ok (.ifCond .eq (15), 3) := by decide +kernel
theorem d_M_opens_9 : decode (rm_code mM_opens) 9 = .ok (.aload_n 0, 1) := by decide +kernel
theorem d_M_opens_10 : decode (rm_code mM_opens) 10 = .ok (.iload_n 1, 1) := by decide +kernel
theorem d_M_opens_11 : decode (rm_code mM_opens) 11 = .ok (.invokevirtual 278, 3) := by decide +kernel
theorem d_M_opens_14 : decode (rm_code mM_opens) 14 = .ok (.istore_n 3, 1) := by decide +kernel
theorem d_M_opens_15 : decode (rm_code mM_opens) 15 = .ok (.iload_n 3, 1) := by decide +kernel
theorem d_M_opens_16 : decode (rm_code mM_opens) 16 = .ok (.ifCond .eq (5), 3) := by decide +kernel
theorem d_M_opens_19 : decode (rm_code mM_opens) 19 = .ok (.iload_n 3, 1) := by decide +kernel
theorem d_M_opens_20 : decode (rm_code mM_opens) 20 = .ok (.ireturn, 1) := by decide +kernel
theorem d_M_opens_21 : decode (rm_code mM_opens) 21 = .ok (.aload_n 0, 1) := by decide +kernel
theorem d_M_opens_22 : decode (rm_code mM_opens) 22 = .ok (.invokevirtual 281, 3) := by decide +kernel
theorem d_M_opens_25 : decode (rm_code mM_opens) 25 = .ok (.iconst 3, 1) := by decide +kernel
theorem d_M_opens_26 : decode (rm_code mM_opens) 26 = .ok (.if_icmp .lt (12), 3) := by decide +kernel
theorem d_M_opens_29 : decode (rm_code mM_opens) 29 = .ok (.aload_n 0, 1) := by decide +kernel
theorem d_M_opens_30 : decode (rm_code mM_opens) 30 = .ok (.bipush (70), 2) := by decide +kernel
theorem d_M_opens_32 : decode (rm_code mM_opens) 32 = .ok (.iconst 0, 1) := by decide +kernel
theorem d_M_opens_33 : decode (rm_code mM_opens) 33 = .ok (.iconst 0, 1) := by decide +kernel
theorem d_M_opens_34 : decode (rm_code mM_opens) 34 = .ok (.invokevirtual 113, 3) := by decide +kernel
theorem d_M_opens_37 : decode (rm_code mM_opens) 37 = .ok (.ireturn, 1) := by decide +kernel
theorem d_M_opens_38 : decode (rm_code mM_opens) 38 = .ok (.iload_n 2, 1) := by decide +kernel
theorem d_M_opens_39 : decode (rm_code mM_opens) 39 = .ok (.ifCond .le (70), 3) := by decide +kernel
theorem d_M_opens_42 : decode (rm_code mM_opens) 42 = .ok (.aload_n 0, 1) := by decide +kernel
theorem d_M_opens_43 : decode (rm_code mM_opens) 43 = .ok (.getfield 260, 3) := by decide +kernel
theorem d_M_opens_46 : decode (rm_code mM_opens) 46 = .ok (.iconst 0, 1) := by decide +kernel
theorem d_M_opens_47 : decode (rm_code mM_opens) 47 = .ok (.iaload, 1) := by decide +kernel
theorem d_M_opens_48 : decode (rm_code mM_opens) 48 = .ok (.bipush (35), 2) := by decide +kernel
theorem d_M_opens_50 : decode (rm_code mM_opens) 50 = .ok (.if_icmp .ne (59), 3) := by decide +kernel
theorem d_M_opens_53 : decode (rm_code mM_opens) 53 = .ok (.iload_n 2, 1) := by decide +kernel
theorem d_M_opens_54 : decode (rm_code mM_opens) 54 = .ok (.iconst 1, 1) := by decide +kernel
theorem d_M_opens_55 : decode (rm_code mM_opens) 55 = .ok (.if_icmp .le (12), 3) := by decide +kernel
theorem d_M_opens_58 : decode (rm_code mM_opens) 58 = .ok (.aload_n 0, 1) := by decide +kernel
theorem d_M_opens_59 : decode (rm_code mM_opens) 59 = .ok (.bipush (30), 2) := by decide +kernel
theorem d_M_opens_61 : decode (rm_code mM_opens) 61 = .ok (.iconst 0, 1) := by decide +kernel
theorem d_M_opens_62 : decode (rm_code mM_opens) 62 = .ok (.iconst 0, 1) := by decide +kernel
theorem d_M_opens_63 : decode (rm_code mM_opens) 63 = .ok (.invokevirtual 113, 3) := by decide +kernel
theorem d_M_opens_66 : decode (rm_code mM_opens) 66 = .ok (.ireturn, 1) := by decide +kernel
theorem d_M_opens_67 : decode (rm_code mM_opens) 67 = .ok (.iconst 0, 1) := by decide +kernel
theorem d_M_opens_68 : decode (rm_code mM_opens) 68 = .ok (.istore_n 3, 1) := by decide +kernel
theorem d_M_opens_69 : decode (rm_code mM_opens) 69 = .ok (.iload_n 3, 1) := by decide +kernel
theorem d_M_opens_70 : decode (rm_code mM_opens) 70 = .ok (.bipush (64), 2) := by decide +kernel
theorem d_M_opens_72 : decode (rm_code mM_opens) 72 = .ok (.if_icmp .ge (21), 3) := by decide +kernel
theorem d_M_opens_75 : decode (rm_code mM_opens) 75 = .ok (.aload_n 0, 1) := by decide +kernel
theorem d_M_opens_76 : decode (rm_code mM_opens) 76 = .ok (.getfield 284, 3) := by decide +kernel
theorem d_M_opens_79 : decode (rm_code mM_opens) 79 = .ok (.bipush (64), 2) := by decide +kernel
theorem d_M_opens_81 : decode (rm_code mM_opens) 81 = .ok (.iload_n 1, 1) := by decide +kernel
theorem d_M_opens_82 : decode (rm_code mM_opens) 82 = .ok (.imul, 1) := by decide +kernel
theorem d_M_opens_83 : decode (rm_code mM_opens) 83 = .ok (.iload_n 3, 1) := by decide +kernel
theorem d_M_opens_84 : decode (rm_code mM_opens) 84 = .ok (.iadd, 1) := by decide +kernel
theorem d_M_opens_85 : decode (rm_code mM_opens) 85 = .ok (.iconst 0, 1) := by decide +kernel
theorem d_M_opens_86 : decode (rm_code mM_opens) 86 = .ok (.iastore, 1) := by decide +kernel
theorem d_M_opens_87 : decode (rm_code mM_opens) 87 = .ok (.iinc 3 (1), 3) := by decide +kernel
theorem d_M_opens_90 : decode (rm_code mM_opens) 90 = .ok (.goto (-21), 3) := by decide +kernel
theorem d_M_opens_93 : decode (rm_code mM_opens) 93 = .ok (.aload_n 0, 1) := by decide +kernel
theorem d_M_opens_94 : decode (rm_code mM_opens) 94 = .ok (.getfield 287, 3) := by decide +kernel
theorem d_M_opens_97 : decode (rm_code mM_opens) 97 = .ok (.iload_n 1, 1) := by decide +kernel
theorem d_M_opens_98 : decode (rm_code mM_opens) 98 = .ok (.iconst 0, 1) := by decide +kernel
theorem d_M_opens_99 : decode (rm_code mM_opens) 99 = .ok (.iastore, 1) := by decide +kernel
theorem d_M_opens_100 : decode (rm_code mM_opens) 100 = .ok (.aload_n 0, 1) := by decide +kernel
theorem d_M_opens_101 : decode (rm_code mM_opens) 101 = .ok (.getfield 248, 3) := by decide +kernel
theorem d_M_opens_104 : decode (rm_code mM_opens) 104 = .ok (.iload_n 1, 1) := by decide +kernel
theorem d_M_opens_105 : decode (rm_code mM_opens) 105 = .ok (.iconst 4, 1) := by decide +kernel
theorem d_M_opens_106 : decode (rm_code mM_opens) 106 = .ok (.iastore, 1) := by decide +kernel
theorem d_M_opens_107 : decode (rm_code mM_opens) 107 = .ok (.iconst 0, 1) := by decide +kernel
theorem d_M_opens_108 : decode (rm_code mM_opens) 108 = .ok (.ireturn, 1) := by decide +kernel
theorem d_M_opens_109 : decode (rm_code mM_opens) 109 = .ok (.iload_n 2, 1) := by decide +kernel
theorem d_M_opens_110 : decode (rm_code mM_opens) 110 = .ok (.ifCond .le (21), 3) := by decide +kernel
theorem d_M_opens_113 : decode (rm_code mM_opens) 113 = .ok (.aload_n 0, 1) := by decide +kernel
theorem d_M_opens_114 : decode (rm_code mM_opens) 114 = .ok (.getfield 260, 3) := by decide +kernel
theorem d_M_opens_117 : decode (rm_code mM_opens) 117 = .ok (.iconst 0, 1) := by decide +kernel
theorem d_M_opens_118 : decode (rm_code mM_opens) 118 = .ok (.iaload, 1) := by decide +kernel
theorem d_M_opens_119 : decode (rm_code mM_opens) 119 = .ok (.bipush (36), 2) := by decide +kernel
theorem d_M_opens_121 : decode (rm_code mM_opens) 121 = .ok (.if_icmp .ne (10), 3) := by decide +kernel
theorem d_M_opens_124 : decode (rm_code mM_opens) 124 = .ok (.aload_n 0, 1) := by decide +kernel
theorem d_M_opens_125 : decode (rm_code mM_opens) 125 = .ok (.iload_n 1, 1) := by decide +kernel
theorem d_M_opens_126 : decode (rm_code mM_opens) 126 = .ok (.iload_n 2, 1) := by decide +kernel
theorem d_M_opens_127 : decode (rm_code mM_opens) 127 = .ok (.invokevirtual 290, 3) := by decide +kernel
theorem d_M_opens_130 : decode (rm_code mM_opens) 130 = .ok (.ireturn, 1) := by decide +kernel
theorem d_M_opens_131 : decode (rm_code mM_opens) 131 = .ok (.aload_n 0, 1) := by decide +kernel
theorem d_M_opens_132 : decode (rm_code mM_opens) 132 = .ok (.iload_n 1, 1) := by decide +kernel
theorem d_M_opens_133 : decode (rm_code mM_opens) 133 = .ok (.iload_n 2, 1) := by decide +kernel
theorem d_M_opens_134 : decode (rm_code mM_opens) 134 = .ok (.invokevirtual 293, 3) := by decide +kernel
theorem d_M_opens_137 : decode (rm_code mM_opens) 137 = .ok (.ireturn, 1) := by decide +kernel
theorem p_M_opens_0 {S : rz_S} {K : Int32 → rz_S → Prop} {a1 : Int32} {a2 : Int32} (w : rx_in a1 15 = true ∧ ((S.1 126 a1.toNatClampNeg = 0 → rz mM_opens 21 [(0, .ref 116), (1, .int a1), (2, .int a2)] [] S (rz_i K)) ∧ (¬ S.1 126 a1.toNatClampNeg = 0 → rz_ev mM_shuts [.ref 116, .int a1] S (rz_i (fun xq2 Sq2 => ((xq2 = 0 → rz mM_opens 21 [(0, .ref 116), (1, .int a1), (2, .int a2)] [] Sq2 (rz_i K)) ∧ (¬ xq2 = 0 → K xq2 Sq2))))))) : rz mM_opens 0 [(0, .ref 116), (1, .int a1), (2, .int a2)] [] S (rz_i K) := by
  refine rz_pure (pc' := 1) d_M_opens_0 rfl ?_
  refine rz_getr d_M_opens_1 f_12_248 rfl rfl ?_
  refine rz_pure (pc' := 5) d_M_opens_4 rfl ?_
  refine rz_ialdv (F := S.1 126) (i := a1.toNatClampNeg) d_M_opens_5 rfl w.1 rfl rfl ?_
  refine rz_ifeq (tgt := 21) d_M_opens_6 rfl (fun b1 => ?_) (fun b1 => ?_)
  · skip
    exact rz_pick (ks := [0, 1, 2]) (l := [(0, .ref 116), (1, .int a1), (2, .int a2)]) rfl rfl (by decide) rfl (w.2.1 b1)
  · skip
    refine rz_pure (pc' := 10) d_M_opens_9 rfl ?_
    refine rz_pure (pc' := 11) d_M_opens_10 rfl ?_
    refine rz_callVi (t := [.int a1]) d_M_opens_11 w_12_278 rfl rfl rfl (w.2.2 b1) (fun xq2 Sq2 q2 => ?_)
    refine rz_pure (pc' := 15) (l' := [(3, .int xq2), (0, .ref 116), (1, .int a1), (2, .int a2)]) d_M_opens_14 rfl ?_
    refine rz_pure (pc' := 16) d_M_opens_15 rfl ?_
    refine rz_ifeq (tgt := 21) d_M_opens_16 rfl (fun b3 => ?_) (fun b3 => ?_)
    · skip
      exact rz_pick (ks := [0, 1, 2]) (l := [(0, .ref 116), (1, .int a1), (2, .int a2)]) rfl rfl (by decide) rfl (q2.1 b3)
    · skip
      refine rz_pure (pc' := 20) d_M_opens_19 rfl ?_
      exact rz_ireti d_M_opens_20 rfl rfl (q2.2 b3)
theorem p_M_opens_21 {S : rz_S} {K : Int32 → rz_S → Prop} {a1 : Int32} {a2 : Int32} (w : rz_ev mM_openMany [.ref 116] S (rz_i (fun xq1 Sq1 => ((xq1 < 3 → ((a2 ≤ 0 → rz mM_opens 109 [(0, .ref 116), (1, .int a1), (2, .int a2)] [] Sq1 (rz_i K)) ∧ (¬ a2 ≤ 0 → ((Sq1.1 151 0 = 35 → ((a2 ≤ 1 → rz mM_opens 69 [(0, .ref 116), (1, .int a1), (3, .int 0)] [] Sq1 (rz_i K)) ∧ (¬ a2 ≤ 1 → rz_ev mM_fault [.ref 116, .int 30, .int 0, .int 0] Sq1 (rz_i (fun xq6 Sq6 => K xq6 Sq6))))) ∧ (¬ Sq1.1 151 0 = 35 → rz mM_opens 109 [(0, .ref 116), (1, .int a1), (2, .int a2)] [] Sq1 (rz_i K)))))) ∧ (¬ xq1 < 3 → rz_ev mM_fault [.ref 116, .int 70, .int 0, .int 0] Sq1 (rz_i (fun xq7 Sq7 => K xq7 Sq7))))))) : rz mM_opens 21 [(0, .ref 116), (1, .int a1), (2, .int a2)] [] S (rz_i K) := by
  refine rz_pure (pc' := 22) d_M_opens_21 rfl ?_
  refine rz_callVi (t := []) d_M_opens_22 w_12_281 rfl rfl rfl w (fun xq1 Sq1 q1 => ?_)
  refine rz_iconst (v := 3) d_M_opens_25 (by decide) ?_
  refine rz_icmplt (tgt := 38) d_M_opens_26 rfl (fun b2 => ?_) (fun b2 => ?_)
  · skip
    refine rz_pure (pc' := 39) d_M_opens_38 rfl ?_
    refine rz_ifle (tgt := 109) d_M_opens_39 rfl (fun b3 => ?_) (fun b3 => ?_)
    · skip
      exact rz_pick (ks := [0, 1, 2]) (l := [(0, .ref 116), (1, .int a1), (2, .int a2)]) rfl rfl (by decide) rfl ((q1.1 b2).1 b3)
    · skip
      refine rz_pure (pc' := 43) d_M_opens_42 rfl ?_
      refine rz_getr d_M_opens_43 f_12_260 rfl rfl ?_
      refine rz_iconst (v := 0) d_M_opens_46 (by decide) ?_
      refine rz_ialdv (F := Sq1.1 151) (i := 0) d_M_opens_47 rfl (by decide) rfl (by decide) ?_
      refine rz_bipush (v := 35) d_M_opens_48 (by decide) ?_
      refine rz_icmpne (tgt := 109) d_M_opens_50 rfl (fun b4 => ?_) (fun b4 => ?_)
      · skip
        exact rz_pick (ks := [0, 1, 2]) (l := [(0, .ref 116), (1, .int a1), (2, .int a2)]) rfl rfl (by decide) rfl (((q1.1 b2).2 b3).2 b4)
      · skip
        refine rz_pure (pc' := 54) d_M_opens_53 rfl ?_
        refine rz_iconst (v := 1) d_M_opens_54 (by decide) ?_
        refine rz_icmple (tgt := 67) d_M_opens_55 rfl (fun b5 => ?_) (fun b5 => ?_)
        · skip
          refine rz_iconst (v := 0) d_M_opens_67 (by decide) ?_
          refine rz_pure (pc' := 69) (l' := [(3, .int 0), (0, .ref 116), (1, .int a1), (2, .int a2)]) d_M_opens_68 rfl ?_
          exact rz_pick (ks := [0, 1, 3]) (l := [(0, .ref 116), (1, .int a1), (3, .int 0)]) rfl rfl (by decide) rfl ((((q1.1 b2).2 b3).1 b4).1 b5)
        · skip
          refine rz_pure (pc' := 59) d_M_opens_58 rfl ?_
          refine rz_bipush (v := 30) d_M_opens_59 (by decide) ?_
          refine rz_iconst (v := 0) d_M_opens_61 (by decide) ?_
          refine rz_iconst (v := 0) d_M_opens_62 (by decide) ?_
          refine rz_callVi (t := [.int 0, .int 0, .int 30]) d_M_opens_63 w_12_113 rfl rfl rfl ((((q1.1 b2).2 b3).1 b4).2 b5) (fun xq6 Sq6 q6 => ?_)
          exact rz_ireti d_M_opens_66 rfl rfl q6
  · skip
    refine rz_pure (pc' := 30) d_M_opens_29 rfl ?_
    refine rz_bipush (v := 70) d_M_opens_30 (by decide) ?_
    refine rz_iconst (v := 0) d_M_opens_32 (by decide) ?_
    refine rz_iconst (v := 0) d_M_opens_33 (by decide) ?_
    refine rz_callVi (t := [.int 0, .int 0, .int 70]) d_M_opens_34 w_12_113 rfl rfl rfl (q1.2 b2) (fun xq7 Sq7 q7 => ?_)
    exact rz_ireti d_M_opens_37 rfl rfl q7
theorem p_M_opens_109 {S : rz_S} {K : Int32 → rz_S → Prop} {a1 : Int32} {a2 : Int32} (w : ((a2 ≤ 0 → rz mM_opens 131 [(0, .ref 116), (1, .int a1), (2, .int a2)] [] S (rz_i K)) ∧ (¬ a2 ≤ 0 → ((S.1 151 0 = 36 → rz_ev mM_opensList [.ref 116, .int a1, .int a2] S (rz_i (fun xq3 Sq3 => K xq3 Sq3))) ∧ (¬ S.1 151 0 = 36 → rz mM_opens 131 [(0, .ref 116), (1, .int a1), (2, .int a2)] [] S (rz_i K)))))) : rz mM_opens 109 [(0, .ref 116), (1, .int a1), (2, .int a2)] [] S (rz_i K) := by
  refine rz_pure (pc' := 110) d_M_opens_109 rfl ?_
  refine rz_ifle (tgt := 131) d_M_opens_110 rfl (fun b1 => ?_) (fun b1 => ?_)
  · skip
    exact rz_pick (ks := [0, 1, 2]) (l := [(0, .ref 116), (1, .int a1), (2, .int a2)]) rfl rfl (by decide) rfl (w.1 b1)
  · skip
    refine rz_pure (pc' := 114) d_M_opens_113 rfl ?_
    refine rz_getr d_M_opens_114 f_12_260 rfl rfl ?_
    refine rz_iconst (v := 0) d_M_opens_117 (by decide) ?_
    refine rz_ialdv (F := S.1 151) (i := 0) d_M_opens_118 rfl (by decide) rfl (by decide) ?_
    refine rz_bipush (v := 36) d_M_opens_119 (by decide) ?_
    refine rz_icmpne (tgt := 131) d_M_opens_121 rfl (fun b2 => ?_) (fun b2 => ?_)
    · skip
      exact rz_pick (ks := [0, 1, 2]) (l := [(0, .ref 116), (1, .int a1), (2, .int a2)]) rfl rfl (by decide) rfl ((w.2 b1).2 b2)
    · skip
      refine rz_pure (pc' := 125) d_M_opens_124 rfl ?_
      refine rz_pure (pc' := 126) d_M_opens_125 rfl ?_
      refine rz_pure (pc' := 127) d_M_opens_126 rfl ?_
      refine rz_callVi (t := [.int a2, .int a1]) d_M_opens_127 w_12_290 rfl rfl rfl ((w.2 b1).1 b2) (fun xq3 Sq3 q3 => ?_)
      exact rz_ireti d_M_opens_130 rfl rfl q3
theorem p_M_opens_69 {S : rz_S} {K : Int32 → rz_S → Prop} {a1 : Int32} {a3 : Int32} (w : ((64 ≤ a3 → rx_in a1 15 = true ∧ K 0 (rz_fA (rz_fA S 128 (upd (S.1 128) a1.toNatClampNeg 0)) 126 (upd (S.1 126) a1.toNatClampNeg 4))) ∧ (¬ 64 ≤ a3 → rx_in ((64 * a1) + a3) 960 = true ∧ rz mM_opens 69 [(0, .ref 116), (1, .int a1), (3, .int (a3 + 1))] [] (rz_fA S 127 (upd (S.1 127) (((64 * a1) + a3).toNatClampNeg) 0)) (rz_i K)))) : rz mM_opens 69 [(0, .ref 116), (1, .int a1), (3, .int a3)] [] S (rz_i K) := by
  refine rz_pure (pc' := 70) d_M_opens_69 rfl ?_
  refine rz_bipush (v := 64) d_M_opens_70 (by decide) ?_
  refine rz_icmpge (tgt := 93) d_M_opens_72 rfl (fun b1 => ?_) (fun b1 => ?_)
  · skip
    refine rz_pure (pc' := 94) d_M_opens_93 rfl ?_
    refine rz_getr d_M_opens_94 f_12_287 rfl rfl ?_
    refine rz_pure (pc' := 98) d_M_opens_97 rfl ?_
    refine rz_iconst (v := 0) d_M_opens_98 (by decide) ?_
    refine rz_iastv (F := S.1 128) (i := a1.toNatClampNeg) d_M_opens_99 rfl (w.1 b1).1 rfl rfl ?_
    refine rz_pure (pc' := 101) d_M_opens_100 rfl ?_
    refine rz_getr d_M_opens_101 f_12_248 rfl rfl ?_
    refine rz_pure (pc' := 105) d_M_opens_104 rfl ?_
    refine rz_iconst (v := 4) d_M_opens_105 (by decide) ?_
    refine rz_iastv (F := S.1 126) (i := a1.toNatClampNeg) d_M_opens_106 rfl (w.1 b1).1 ((rz_fA_n (by omega)).trans rfl) rfl ?_
    refine rz_iconst (v := 0) d_M_opens_107 (by decide) ?_
    exact rz_ireti d_M_opens_108 rfl rfl (w.1 b1).2
  · skip
    refine rz_pure (pc' := 76) d_M_opens_75 rfl ?_
    refine rz_getr d_M_opens_76 f_12_284 rfl rfl ?_
    refine rz_bipush (v := 64) d_M_opens_79 (by decide) ?_
    refine rz_pure (pc' := 82) d_M_opens_81 rfl ?_
    refine rz_imul d_M_opens_82 ?_
    refine rz_pure (pc' := 84) d_M_opens_83 rfl ?_
    refine rz_iadd d_M_opens_84 ?_
    refine rz_iconst (v := 0) d_M_opens_85 (by decide) ?_
    refine rz_iastv (F := S.1 127) (i := ((64 * a1) + a3).toNatClampNeg) d_M_opens_86 rfl (w.2 b1).1 rfl rfl ?_
    refine rz_pure (pc' := 90) (l' := [(3, .int (a3 + 1)), (0, .ref 116), (1, .int a1)]) d_M_opens_87 rfl ?_
    refine rz_pure (pc' := 69) d_M_opens_90 rfl ?_
    exact rz_pick (ks := [0, 1, 3]) (l := [(0, .ref 116), (1, .int a1), (3, .int (a3 + 1))]) rfl rfl (by decide) rfl (w.2 b1).2
theorem p_M_opens_131 {S : rz_S} {K : Int32 → rz_S → Prop} {a1 : Int32} {a2 : Int32} (w : rz_ev mM_opensFile [.ref 116, .int a1, .int a2] S (rz_i (fun xq1 Sq1 => K xq1 Sq1))) : rz mM_opens 131 [(0, .ref 116), (1, .int a1), (2, .int a2)] [] S (rz_i K) := by
  refine rz_pure (pc' := 132) d_M_opens_131 rfl ?_
  refine rz_pure (pc' := 133) d_M_opens_132 rfl ?_
  refine rz_pure (pc' := 134) d_M_opens_133 rfl ?_
  refine rz_callVi (t := [.int a2, .int a1]) d_M_opens_134 w_12_293 rfl rfl rfl w (fun xq1 Sq1 q1 => ?_)
  exact rz_ireti d_M_opens_137 rfl rfl q1
theorem d_M_opensList_0 : decode (rm_code mM_opensList) 0 = .ok (.iload_n 2, 1) := by decide +kernel
theorem d_M_opensList_1 : decode (rm_code mM_opensList) 1 = .ok (.iconst 1, 1) := by decide +kernel
theorem d_M_opensList_2 : decode (rm_code mM_opensList) 2 = .ok (.if_icmp .le (14), 3) := by decide +kernel
theorem d_M_opensList_5 : decode (rm_code mM_opensList) 5 = .ok (.aload_n 0, 1) := by decide +kernel
theorem d_M_opensList_6 : decode (rm_code mM_opensList) 6 = .ok (.getfield 260, 3) := by decide +kernel
theorem d_M_opensList_9 : decode (rm_code mM_opensList) 9 = .ok (.iconst 1, 1) := by decide +kernel
theorem d_M_opensList_10 : decode (rm_code mM_opensList) 10 = .ok (.iaload, 1) := by decide +kernel
theorem d_M_opensList_11 : decode (rm_code mM_opensList) 11 = .ok (.bipush (58), 2) := by decide +kernel
theorem d_M_opensList_13 : decode (rm_code mM_opensList) 13 = .ok (.if_icmp .ne (9), 3) := by decide +kernel
theorem d_M_opensList_16 : decode (rm_code mM_opensList) 16 = .ok (.iload_n 2, 1) := by decide +kernel
theorem d_M_opensList_17 : decode (rm_code mM_opensList) 17 = .ok (.bipush (12), 2) := by decide +kernel
theorem d_M_opensList_19 : decode (rm_code mM_opensList) 19 = .ok (.if_icmp .le (12), 3) := by decide +kernel
theorem d_M_opensList_22 : decode (rm_code mM_opensList) 22 = .ok (.aload_n 0, 1) := by decide +kernel
theorem d_M_opensList_23 : decode (rm_code mM_opensList) 23 = .ok (.bipush (30), 2) := by decide +kernel
theorem d_M_opensList_25 : decode (rm_code mM_opensList) 25 = .ok (.iconst 0, 1) := by decide +kernel
theorem d_M_opensList_26 : decode (rm_code mM_opensList) 26 = .ok (.iconst 0, 1) := by decide +kernel
theorem d_M_opensList_27 : decode (rm_code mM_opensList) 27 = .ok (.invokevirtual 113, 3) := by decide +kernel
theorem d_M_opensList_30 : decode (rm_code mM_opensList) 30 = .ok (.ireturn, 1) := by decide +kernel
theorem d_M_opensList_31 : decode (rm_code mM_opensList) 31 = .ok (.iload_n 2, 1) := by decide +kernel
theorem d_M_opensList_32 : decode (rm_code mM_opensList) 32 = .ok (.iconst 2, 1) := by decide +kernel
theorem d_M_opensList_33 : decode (rm_code mM_opensList) 33 = .ok (.if_icmp .le (9), 3) := by decide +kernel
theorem d_M_opensList_36 : decode (rm_code mM_opensList) 36 = .ok (.iload_n 2, 1) := by decide +kernel
theorem d_M_opensList_37 : decode (rm_code mM_opensList) 37 = .ok (.iconst 2, 1) := by decide +kernel
theorem d_M_opensList_38 : decode (rm_code mM_opensList) 38 = .ok (.isub, 1) := by decide +kernel
theorem d_M_opensList_39 : decode (rm_code mM_opensList) 39 = .ok (.goto (4), 3) := by decide +kernel
theorem d_M_opensList_42 : decode (rm_code mM_opensList) 42 = .ok (.iconst 0, 1) := by decide +kernel
theorem d_M_opensList_43 : decode (rm_code mM_opensList) 43 = .ok (.istore_n 3, 1) := by decide +kernel
theorem d_M_opensList_44 : decode (rm_code mM_opensList) 44 = .ok (.iconst 0, 1) := by decide +kernel
theorem d_M_opensList_45 : decode (rm_code mM_opensList) 45 = .ok (.istore 4, 2) := by decide +kernel
theorem d_M_opensList_47 : decode (rm_code mM_opensList) 47 = .ok (.iload 4, 2) := by decide +kernel
theorem d_M_opensList_49 : decode (rm_code mM_opensList) 49 = .ok (.iload_n 3, 1) := by decide +kernel
theorem d_M_opensList_50 : decode (rm_code mM_opensList) 50 = .ok (.if_icmp .ge (30), 3) := by decide +kernel
theorem d_M_opensList_53 : decode (rm_code mM_opensList) 53 = .ok (.aload_n 0, 1) := by decide +kernel
theorem d_M_opensList_54 : decode (rm_code mM_opensList) 54 = .ok (.getfield 296, 3) := by decide +kernel
theorem d_M_opensList_57 : decode (rm_code mM_opensList) 57 = .ok (.bipush (10), 2) := by decide +kernel
theorem d_M_opensList_59 : decode (rm_code mM_opensList) 59 = .ok (.iload_n 1, 1) := by decide +kernel
theorem d_M_opensList_60 : decode (rm_code mM_opensList) 60 = .ok (.imul, 1) := by decide +kernel
theorem d_M_opensList_61 : decode (rm_code mM_opensList) 61 = .ok (.iload 4, 2) := by decide +kernel
theorem d_M_opensList_63 : decode (rm_code mM_opensList) 63 = .ok (.iadd, 1) := by decide +kernel
theorem d_M_opensList_64 : decode (rm_code mM_opensList) 64 = .ok (.aload_n 0, 1) := by decide +kernel
theorem d_M_opensList_65 : decode (rm_code mM_opensList) 65 = .ok (.getfield 260, 3) := by decide +kernel
theorem d_M_opensList_68 : decode (rm_code mM_opensList) 68 = .ok (.iconst 2, 1) := by decide +kernel
theorem d_M_opensList_69 : decode (rm_code mM_opensList) 69 = .ok (.iload 4, 2) := by decide +kernel
theorem d_M_opensList_71 : decode (rm_code mM_opensList) 71 = .ok (.iadd, 1) := by decide +kernel
theorem d_M_opensList_72 : decode (rm_code mM_opensList) 72 = .ok (.iaload, 1) := by decide +kernel
theorem d_M_opensList_73 : decode (rm_code mM_opensList) 73 = .ok (.iastore, 1) := by decide +kernel
theorem d_M_opensList_74 : decode (rm_code mM_opensList) 74 = .ok (.iinc 4 (1), 3) := by decide +kernel
theorem d_M_opensList_77 : decode (rm_code mM_opensList) 77 = .ok (.goto (-30), 3) := by decide +kernel
theorem d_M_opensList_80 : decode (rm_code mM_opensList) 80 = .ok (.iload_n 3, 1) := by decide +kernel
theorem d_M_opensList_81 : decode (rm_code mM_opensList) 81 = .ok (.ifCond .ne (14), 3) := by decide +kernel
theorem d_M_opensList_84 : decode (rm_code mM_opensList) 84 = .ok (.aload_n 0, 1) := by decide +kernel
theorem d_M_opensList_85 : decode (rm_code mM_opensList) 85 = .ok (.getfield 296, 3) := by decide +kernel
theorem d_M_opensList_88 : decode (rm_code mM_opensList) 88 = .ok (.bipush (10), 2) := by decide +kernel
theorem d_M_opensList_90 : decode (rm_code mM_opensList) 90 = .ok (.iload_n 1, 1) := by decide +kernel
theorem d_M_opensList_91 : decode (rm_code mM_opensList) 91 = .ok (.imul, 1) := by decide +kernel
theorem d_M_opensList_92 : decode (rm_code mM_opensList) 92 = .ok (.bipush (42), 2) := by decide +kernel
theorem d_M_opensList_94 : decode (rm_code mM_opensList) 94 = .ok (.iastore, 1) := by decide +kernel
theorem d_M_opensList_95 : decode (rm_code mM_opensList) 95 = .ok (.aload_n 0, 1) := by decide +kernel
theorem d_M_opensList_96 : decode (rm_code mM_opensList) 96 = .ok (.getfield 299, 3) := by decide +kernel
theorem d_M_opensList_99 : decode (rm_code mM_opensList) 99 = .ok (.iload_n 1, 1) := by decide +kernel
theorem d_M_opensList_100 : decode (rm_code mM_opensList) 100 = .ok (.iload_n 3, 1) := by decide +kernel
theorem d_M_opensList_101 : decode (rm_code mM_opensList) 101 = .ok (.ifCond .ne (7), 3) := by decide +kernel
theorem d_M_opensList_104 : decode (rm_code mM_opensList) 104 = .ok (.iconst 1, 1) := by decide +kernel
theorem d_M_opensList_105 : decode (rm_code mM_opensList) 105 = .ok (.goto (4), 3) := by decide +kernel
theorem d_M_opensList_108 : decode (rm_code mM_opensList) 108 = .ok (.iload_n 3, 1) := by decide +kernel
theorem d_M_opensList_109 : decode (rm_code mM_opensList) 109 = .ok (.iastore, 1) := by decide +kernel
theorem d_M_opensList_110 : decode (rm_code mM_opensList) 110 = .ok (.aload_n 0, 1) := by decide +kernel
theorem d_M_opensList_111 : decode (rm_code mM_opensList) 111 = .ok (.getfield 302, 3) := by decide +kernel
theorem d_M_opensList_114 : decode (rm_code mM_opensList) 114 = .ok (.iload_n 1, 1) := by decide +kernel
theorem d_M_opensList_115 : decode (rm_code mM_opensList) 115 = .ok (.iconst 0, 1) := by decide +kernel
theorem d_M_opensList_116 : decode (rm_code mM_opensList) 116 = .ok (.iastore, 1) := by decide +kernel
theorem d_M_opensList_117 : decode (rm_code mM_opensList) 117 = .ok (.aload_n 0, 1) := by decide +kernel
theorem d_M_opensList_118 : decode (rm_code mM_opensList) 118 = .ok (.getfield 305, 3) := by decide +kernel
theorem d_M_opensList_121 : decode (rm_code mM_opensList) 121 = .ok (.iload_n 1, 1) := by decide +kernel
theorem d_M_opensList_122 : decode (rm_code mM_opensList) 122 = .ok (.iconst 0, 1) := by decide +kernel
theorem d_M_opensList_123 : decode (rm_code mM_opensList) 123 = .ok (.iastore, 1) := by decide +kernel
theorem d_M_opensList_124 : decode (rm_code mM_opensList) 124 = .ok (.aload_n 0, 1) := by decide +kernel
theorem d_M_opensList_125 : decode (rm_code mM_opensList) 125 = .ok (.getfield 308, 3) := by decide +kernel
theorem d_M_opensList_128 : decode (rm_code mM_opensList) 128 = .ok (.iload_n 1, 1) := by decide +kernel
theorem d_M_opensList_129 : decode (rm_code mM_opensList) 129 = .ok (.iconst 0, 1) := by decide +kernel
theorem d_M_opensList_130 : decode (rm_code mM_opensList) 130 = .ok (.iastore, 1) := by decide +kernel
theorem d_M_opensList_131 : decode (rm_code mM_opensList) 131 = .ok (.aload_n 0, 1) := by decide +kernel
theorem d_M_opensList_132 : decode (rm_code mM_opensList) 132 = .ok (.getfield 248, 3) := by decide +kernel
theorem d_M_opensList_135 : decode (rm_code mM_opensList) 135 = .ok (.iload_n 1, 1) := by decide +kernel
theorem d_M_opensList_136 : decode (rm_code mM_opensList) 136 = .ok (.iconst 3, 1) := by decide +kernel
theorem d_M_opensList_137 : decode (rm_code mM_opensList) 137 = .ok (.iastore, 1) := by decide +kernel
theorem d_M_opensList_138 : decode (rm_code mM_opensList) 138 = .ok (.iconst 0, 1) := by decide +kernel
theorem d_M_opensList_139 : decode (rm_code mM_opensList) 139 = .ok (.ireturn, 1) := by decide +kernel
theorem p_M_opensList_0 {S : rz_S} {K : Int32 → rz_S → Prop} {a1 : Int32} {a2 : Int32} (w : ((a2 ≤ 1 → rz mM_opensList 16 [(0, .ref 116), (1, .int a1), (2, .int a2)] [] S (rz_i K)) ∧ (¬ a2 ≤ 1 → ((S.1 151 1 = 58 → rz mM_opensList 16 [(0, .ref 116), (1, .int a1), (2, .int a2)] [] S (rz_i K)) ∧ (¬ S.1 151 1 = 58 → rz mM_opensList 22 [(0, .ref 116)] [] S (rz_i K)))))) : rz mM_opensList 0 [(0, .ref 116), (1, .int a1), (2, .int a2)] [] S (rz_i K) := by
  refine rz_pure (pc' := 1) d_M_opensList_0 rfl ?_
  refine rz_iconst (v := 1) d_M_opensList_1 (by decide) ?_
  refine rz_icmple (tgt := 16) d_M_opensList_2 rfl (fun b1 => ?_) (fun b1 => ?_)
  · skip
    exact rz_pick (ks := [0, 1, 2]) (l := [(0, .ref 116), (1, .int a1), (2, .int a2)]) rfl rfl (by decide) rfl (w.1 b1)
  · skip
    refine rz_pure (pc' := 6) d_M_opensList_5 rfl ?_
    refine rz_getr d_M_opensList_6 f_12_260 rfl rfl ?_
    refine rz_iconst (v := 1) d_M_opensList_9 (by decide) ?_
    refine rz_ialdv (F := S.1 151) (i := 1) d_M_opensList_10 rfl (by decide) rfl (by decide) ?_
    refine rz_bipush (v := 58) d_M_opensList_11 (by decide) ?_
    refine rz_icmpne (tgt := 22) d_M_opensList_13 rfl (fun b2 => ?_) (fun b2 => ?_)
    · skip
      exact rz_pick (ks := [0]) (l := [(0, .ref 116)]) rfl rfl (by decide) rfl ((w.2 b1).2 b2)
    · skip
      exact rz_pick (ks := [0, 1, 2]) (l := [(0, .ref 116), (1, .int a1), (2, .int a2)]) rfl rfl (by decide) rfl ((w.2 b1).1 b2)
theorem p_M_opensList_16 {S : rz_S} {K : Int32 → rz_S → Prop} {a1 : Int32} {a2 : Int32} (w : ((a2 ≤ 12 → ((a2 ≤ 2 → rz mM_opensList 47 [(0, .ref 116), (1, .int a1), (3, .int 0), (4, .int 0)] [] S (rz_i K)) ∧ (¬ a2 ≤ 2 → rz mM_opensList 47 [(0, .ref 116), (1, .int a1), (3, .int (a2 - 2)), (4, .int 0)] [] S (rz_i K)))) ∧ (¬ a2 ≤ 12 → rz mM_opensList 22 [(0, .ref 116)] [] S (rz_i K)))) : rz mM_opensList 16 [(0, .ref 116), (1, .int a1), (2, .int a2)] [] S (rz_i K) := by
  refine rz_pure (pc' := 17) d_M_opensList_16 rfl ?_
  refine rz_bipush (v := 12) d_M_opensList_17 (by decide) ?_
  refine rz_icmple (tgt := 31) d_M_opensList_19 rfl (fun b1 => ?_) (fun b1 => ?_)
  · skip
    refine rz_pure (pc' := 32) d_M_opensList_31 rfl ?_
    refine rz_iconst (v := 2) d_M_opensList_32 (by decide) ?_
    refine rz_icmple (tgt := 42) d_M_opensList_33 rfl (fun b2 => ?_) (fun b2 => ?_)
    · skip
      refine rz_iconst (v := 0) d_M_opensList_42 (by decide) ?_
      refine rz_pure (pc' := 44) (l' := [(3, .int 0), (0, .ref 116), (1, .int a1), (2, .int a2)]) d_M_opensList_43 rfl ?_
      refine rz_iconst (v := 0) d_M_opensList_44 (by decide) ?_
      refine rz_pure (pc' := 47) (l' := [(4, .int 0), (3, .int 0), (0, .ref 116), (1, .int a1), (2, .int a2)]) d_M_opensList_45 rfl ?_
      exact rz_pick (ks := [0, 1, 3, 4]) (l := [(0, .ref 116), (1, .int a1), (3, .int 0), (4, .int 0)]) rfl rfl (by decide) rfl ((w.1 b1).1 b2)
    · skip
      refine rz_pure (pc' := 37) d_M_opensList_36 rfl ?_
      refine rz_iconst (v := 2) d_M_opensList_37 (by decide) ?_
      refine rz_isub d_M_opensList_38 ?_
      refine rz_pure (pc' := 43) d_M_opensList_39 rfl ?_
      refine rz_pure (pc' := 44) (l' := [(3, .int (a2 - 2)), (0, .ref 116), (1, .int a1), (2, .int a2)]) d_M_opensList_43 rfl ?_
      refine rz_iconst (v := 0) d_M_opensList_44 (by decide) ?_
      refine rz_pure (pc' := 47) (l' := [(4, .int 0), (3, .int (a2 - 2)), (0, .ref 116), (1, .int a1), (2, .int a2)]) d_M_opensList_45 rfl ?_
      exact rz_pick (ks := [0, 1, 3, 4]) (l := [(0, .ref 116), (1, .int a1), (3, .int (a2 - 2)), (4, .int 0)]) rfl rfl (by decide) rfl ((w.1 b1).2 b2)
  · skip
    exact rz_pick (ks := [0]) (l := [(0, .ref 116)]) rfl rfl (by decide) rfl (w.2 b1)
theorem p_M_opensList_22 {S : rz_S} {K : Int32 → rz_S → Prop} (w : rz_ev mM_fault [.ref 116, .int 30, .int 0, .int 0] S (rz_i (fun xq1 Sq1 => K xq1 Sq1))) : rz mM_opensList 22 [(0, .ref 116)] [] S (rz_i K) := by
  refine rz_pure (pc' := 23) d_M_opensList_22 rfl ?_
  refine rz_bipush (v := 30) d_M_opensList_23 (by decide) ?_
  refine rz_iconst (v := 0) d_M_opensList_25 (by decide) ?_
  refine rz_iconst (v := 0) d_M_opensList_26 (by decide) ?_
  refine rz_callVi (t := [.int 0, .int 0, .int 30]) d_M_opensList_27 w_12_113 rfl rfl rfl w (fun xq1 Sq1 q1 => ?_)
  exact rz_ireti d_M_opensList_30 rfl rfl q1
theorem p_M_opensList_47 {S : rz_S} {K : Int32 → rz_S → Prop} {a1 : Int32} {a3 : Int32} {a4 : Int32} (w : ((a3 ≤ a4 → ((a3 = 0 → rx_in (10 * a1) 150 = true ∧ rz mM_opensList 95 [(0, .ref 116), (1, .int a1), (3, .int a3)] [] (rz_fA S 147 (upd (S.1 147) ((10 * a1).toNatClampNeg) 42)) (rz_i K)) ∧ (¬ a3 = 0 → rz mM_opensList 95 [(0, .ref 116), (1, .int a1), (3, .int a3)] [] S (rz_i K)))) ∧ (¬ a3 ≤ a4 → rx_in (2 + a4) 401 = true ∧ rx_in ((10 * a1) + a4) 150 = true ∧ rz mM_opensList 47 [(0, .ref 116), (1, .int a1), (3, .int a3), (4, .int (a4 + 1))] [] (rz_fA S 147 (upd (S.1 147) (((10 * a1) + a4).toNatClampNeg) (S.1 151 ((2 + a4).toNatClampNeg)))) (rz_i K)))) : rz mM_opensList 47 [(0, .ref 116), (1, .int a1), (3, .int a3), (4, .int a4)] [] S (rz_i K) := by
  refine rz_pure (pc' := 49) d_M_opensList_47 rfl ?_
  refine rz_pure (pc' := 50) d_M_opensList_49 rfl ?_
  refine rz_icmpge (tgt := 80) d_M_opensList_50 rfl (fun b1 => ?_) (fun b1 => ?_)
  · skip
    refine rz_pure (pc' := 81) d_M_opensList_80 rfl ?_
    refine rz_ifne (tgt := 95) d_M_opensList_81 rfl (fun b2 => ?_) (fun b2 => ?_)
    · skip
      exact rz_pick (ks := [0, 1, 3]) (l := [(0, .ref 116), (1, .int a1), (3, .int a3)]) rfl rfl (by decide) rfl ((w.1 b1).2 b2)
    · skip
      refine rz_pure (pc' := 85) d_M_opensList_84 rfl ?_
      refine rz_getr d_M_opensList_85 f_12_296 rfl rfl ?_
      refine rz_bipush (v := 10) d_M_opensList_88 (by decide) ?_
      refine rz_pure (pc' := 91) d_M_opensList_90 rfl ?_
      refine rz_imul d_M_opensList_91 ?_
      refine rz_bipush (v := 42) d_M_opensList_92 (by decide) ?_
      refine rz_iastv (F := S.1 147) (i := (10 * a1).toNatClampNeg) d_M_opensList_94 rfl ((w.1 b1).1 b2).1 rfl rfl ?_
      exact rz_pick (ks := [0, 1, 3]) (l := [(0, .ref 116), (1, .int a1), (3, .int a3)]) rfl rfl (by decide) rfl ((w.1 b1).1 b2).2
  · skip
    refine rz_pure (pc' := 54) d_M_opensList_53 rfl ?_
    refine rz_getr d_M_opensList_54 f_12_296 rfl rfl ?_
    refine rz_bipush (v := 10) d_M_opensList_57 (by decide) ?_
    refine rz_pure (pc' := 60) d_M_opensList_59 rfl ?_
    refine rz_imul d_M_opensList_60 ?_
    refine rz_pure (pc' := 63) d_M_opensList_61 rfl ?_
    refine rz_iadd d_M_opensList_63 ?_
    refine rz_pure (pc' := 65) d_M_opensList_64 rfl ?_
    refine rz_getr d_M_opensList_65 f_12_260 rfl rfl ?_
    refine rz_iconst (v := 2) d_M_opensList_68 (by decide) ?_
    refine rz_pure (pc' := 71) d_M_opensList_69 rfl ?_
    refine rz_iadd d_M_opensList_71 ?_
    refine rz_ialdv (F := S.1 151) (i := (2 + a4).toNatClampNeg) d_M_opensList_72 rfl (w.2 b1).1 rfl rfl ?_
    refine rz_iastv (F := S.1 147) (i := ((10 * a1) + a4).toNatClampNeg) d_M_opensList_73 rfl (w.2 b1).2.1 rfl rfl ?_
    refine rz_pure (pc' := 77) (l' := [(4, .int (a4 + 1)), (0, .ref 116), (1, .int a1), (3, .int a3)]) d_M_opensList_74 rfl ?_
    refine rz_pure (pc' := 47) d_M_opensList_77 rfl ?_
    exact rz_pick (ks := [0, 1, 3, 4]) (l := [(0, .ref 116), (1, .int a1), (3, .int a3), (4, .int (a4 + 1))]) rfl rfl (by decide) rfl (w.2 b1).2.2
theorem p_M_opensList_95 {S : rz_S} {K : Int32 → rz_S → Prop} {a1 : Int32} {a3 : Int32} (w : ((a3 = 0 → rz mM_opensList 109 [(0, .ref 116), (1, .int a1)] [.int 1, .int a1, .ref 144] S (rz_i K)) ∧ (¬ a3 = 0 → rz mM_opensList 109 [(0, .ref 116), (1, .int a1)] [.int a3, .int a1, .ref 144] S (rz_i K)))) : rz mM_opensList 95 [(0, .ref 116), (1, .int a1), (3, .int a3)] [] S (rz_i K) := by
  refine rz_pure (pc' := 96) d_M_opensList_95 rfl ?_
  refine rz_getr d_M_opensList_96 f_12_299 rfl rfl ?_
  refine rz_pure (pc' := 100) d_M_opensList_99 rfl ?_
  refine rz_pure (pc' := 101) d_M_opensList_100 rfl ?_
  refine rz_ifne (tgt := 108) d_M_opensList_101 rfl (fun b1 => ?_) (fun b1 => ?_)
  · skip
    refine rz_pure (pc' := 109) d_M_opensList_108 rfl ?_
    exact rz_pick (ks := [0, 1]) (l := [(0, .ref 116), (1, .int a1)]) rfl rfl (by decide) rfl (w.2 b1)
  · skip
    refine rz_iconst (v := 1) d_M_opensList_104 (by decide) ?_
    refine rz_pure (pc' := 109) d_M_opensList_105 rfl ?_
    exact rz_pick (ks := [0, 1]) (l := [(0, .ref 116), (1, .int a1)]) rfl rfl (by decide) rfl (w.1 b1)
theorem p_M_opensList_109 {S : rz_S} {K : Int32 → rz_S → Prop} {a1 : Int32} {s0 : Int32} {s1 : Int32} (w : rx_in s1 15 = true ∧ rx_in a1 15 = true ∧ K 0 (rz_fA (rz_fA (rz_fA (rz_fA (rz_fA S 144 (upd (S.1 144) s1.toNatClampNeg s0)) 139 (upd (S.1 139) a1.toNatClampNeg 0)) 145 (upd (S.1 145) a1.toNatClampNeg 0)) 146 (upd (S.1 146) a1.toNatClampNeg 0)) 126 (upd (S.1 126) a1.toNatClampNeg 3))) : rz mM_opensList 109 [(0, .ref 116), (1, .int a1)] [.int s0, .int s1, .ref 144] S (rz_i K) := by
  refine rz_iastv (F := S.1 144) (i := s1.toNatClampNeg) d_M_opensList_109 rfl w.1 rfl rfl ?_
  refine rz_pure (pc' := 111) d_M_opensList_110 rfl ?_
  refine rz_getr d_M_opensList_111 f_12_302 rfl rfl ?_
  refine rz_pure (pc' := 115) d_M_opensList_114 rfl ?_
  refine rz_iconst (v := 0) d_M_opensList_115 (by decide) ?_
  refine rz_iastv (F := S.1 139) (i := a1.toNatClampNeg) d_M_opensList_116 rfl w.2.1 ((rz_fA_n (by omega)).trans rfl) rfl ?_
  refine rz_pure (pc' := 118) d_M_opensList_117 rfl ?_
  refine rz_getr d_M_opensList_118 f_12_305 rfl rfl ?_
  refine rz_pure (pc' := 122) d_M_opensList_121 rfl ?_
  refine rz_iconst (v := 0) d_M_opensList_122 (by decide) ?_
  refine rz_iastv (F := S.1 145) (i := a1.toNatClampNeg) d_M_opensList_123 rfl w.2.1 ((rz_fA_n (by omega)).trans ((rz_fA_n (by omega)).trans rfl)) rfl ?_
  refine rz_pure (pc' := 125) d_M_opensList_124 rfl ?_
  refine rz_getr d_M_opensList_125 f_12_308 rfl rfl ?_
  refine rz_pure (pc' := 129) d_M_opensList_128 rfl ?_
  refine rz_iconst (v := 0) d_M_opensList_129 (by decide) ?_
  refine rz_iastv (F := S.1 146) (i := a1.toNatClampNeg) d_M_opensList_130 rfl w.2.1 ((rz_fA_n (by omega)).trans ((rz_fA_n (by omega)).trans ((rz_fA_n (by omega)).trans rfl))) rfl ?_
  refine rz_pure (pc' := 132) d_M_opensList_131 rfl ?_
  refine rz_getr d_M_opensList_132 f_12_248 rfl rfl ?_
  refine rz_pure (pc' := 136) d_M_opensList_135 rfl ?_
  refine rz_iconst (v := 3) d_M_opensList_136 (by decide) ?_
  refine rz_iastv (F := S.1 126) (i := a1.toNatClampNeg) d_M_opensList_137 rfl w.2.1 ((rz_fA_n (by omega)).trans ((rz_fA_n (by omega)).trans ((rz_fA_n (by omega)).trans ((rz_fA_n (by omega)).trans rfl)))) rfl ?_
  refine rz_iconst (v := 0) d_M_opensList_138 (by decide) ?_
  exact rz_ireti d_M_opensList_139 rfl rfl w.2.2
theorem d_M_opensFile_0 : decode (rm_code mM_opensFile) 0 = .ok (.iconst 0, 1) := by decide +kernel
theorem d_M_opensFile_1 : decode (rm_code mM_opensFile) 1 = .ok (.istore_n 3, 1) := by decide +kernel
theorem d_M_opensFile_2 : decode (rm_code mM_opensFile) 2 = .ok (.iload_n 2, 1) := by decide +kernel
theorem d_M_opensFile_3 : decode (rm_code mM_opensFile) 3 = .ok (.ifCond .le (18), 3) := by decide +kernel
theorem d_M_opensFile_6 : decode (rm_code mM_opensFile) 6 = .ok (.aload_n 0, 1) := by decide +kernel
theorem d_M_opensFile_7 : decode (rm_code mM_opensFile) 7 = .ok (.getfield 260, 3) := by decide +kernel
theorem d_M_opensFile_10 : decode (rm_code mM_opensFile) 10 = .ok (.iconst 0, 1) := by decide +kernel
theorem d_M_opensFile_11 : decode (rm_code mM_opensFile) 11 = .ok (.iaload, 1) := by decide +kernel
theorem d_M_opensFile_12 : decode (rm_code mM_opensFile) 12 = .ok (.bipush (64), 2) := by decide +kernel
theorem d_M_opensFile_14 : decode (rm_code mM_opensFile) 14 = .ok (.if_icmp .ne (7), 3) := by decide +kernel
theorem d_M_opensFile_17 : decode (rm_code mM_opensFile) 17 = .ok (.iconst 1, 1) := by decide +kernel
theorem d_M_opensFile_18 : decode (rm_code mM_opensFile) 18 = .ok (.goto (4), 3) := by decide +kernel
theorem d_M_opensFile_21 : decode (rm_code mM_opensFile) 21 = .ok (.iconst 0, 1) := by decide +kernel
theorem d_M_opensFile_22 : decode (rm_code mM_opensFile) 22 = .ok (.istore 4, 2) := by decide +kernel
theorem d_M_opensFile_24 : decode (rm_code mM_opensFile) 24 = .ok (.iload 4, 2) := by decide +kernel
theorem d_M_opensFile_26 : decode (rm_code mM_opensFile) 26 = .ok (.ifCond .eq (5), 3) := by decide +kernel
theorem d_M_opensFile_29 : decode (rm_code mM_opensFile) 29 = .ok (.iconst 1, 1) := by decide +kernel
theorem d_M_opensFile_30 : decode (rm_code mM_opensFile) 30 = .ok (.istore_n 3, 1) := by decide +kernel
theorem d_M_opensFile_31 : decode (rm_code mM_opensFile) 31 = .ok (.iload_n 3, 1) := by decide +kernel
theorem d_M_opensFile_32 : decode (rm_code mM_opensFile) 32 = .ok (.iload_n 2, 1) := by decide +kernel
theorem d_M_opensFile_33 : decode (rm_code mM_opensFile) 33 = .ok (.if_icmp .ge (18), 3) := by decide +kernel
theorem d_M_opensFile_36 : decode (rm_code mM_opensFile) 36 = .ok (.aload_n 0, 1) := by decide +kernel
theorem d_M_opensFile_37 : decode (rm_code mM_opensFile) 37 = .ok (.getfield 260, 3) := by decide +kernel
theorem d_M_opensFile_40 : decode (rm_code mM_opensFile) 40 = .ok (.iload_n 3, 1) := by decide +kernel
theorem d_M_opensFile_41 : decode (rm_code mM_opensFile) 41 = .ok (.iaload, 1) := by decide +kernel
theorem d_M_opensFile_42 : decode (rm_code mM_opensFile) 42 = .ok (.bipush (58), 2) := by decide +kernel
theorem d_M_opensFile_44 : decode (rm_code mM_opensFile) 44 = .ok (.if_icmp .ne (7), 3) := by decide +kernel
theorem d_M_opensFile_47 : decode (rm_code mM_opensFile) 47 = .ok (.iload_n 3, 1) := by decide +kernel
theorem d_M_opensFile_48 : decode (rm_code mM_opensFile) 48 = .ok (.iconst 1, 1) := by decide +kernel
theorem d_M_opensFile_49 : decode (rm_code mM_opensFile) 49 = .ok (.iadd, 1) := by decide +kernel
theorem d_M_opensFile_50 : decode (rm_code mM_opensFile) 50 = .ok (.istore_n 3, 1) := by decide +kernel
theorem d_M_opensFile_51 : decode (rm_code mM_opensFile) 51 = .ok (.iload_n 3, 1) := by decide +kernel
theorem d_M_opensFile_52 : decode (rm_code mM_opensFile) 52 = .ok (.istore 5, 2) := by decide +kernel
theorem d_M_opensFile_54 : decode (rm_code mM_opensFile) 54 = .ok (.iload 5, 2) := by decide +kernel
theorem d_M_opensFile_56 : decode (rm_code mM_opensFile) 56 = .ok (.iload_n 2, 1) := by decide +kernel
theorem d_M_opensFile_57 : decode (rm_code mM_opensFile) 57 = .ok (.if_icmp .ge (24), 3) := by decide +kernel
theorem d_M_opensFile_60 : decode (rm_code mM_opensFile) 60 = .ok (.aload_n 0, 1) := by decide +kernel
theorem d_M_opensFile_61 : decode (rm_code mM_opensFile) 61 = .ok (.getfield 260, 3) := by decide +kernel
theorem d_M_opensFile_64 : decode (rm_code mM_opensFile) 64 = .ok (.iload 5, 2) := by decide +kernel
theorem d_M_opensFile_66 : decode (rm_code mM_opensFile) 66 = .ok (.iaload, 1) := by decide +kernel
theorem d_M_opensFile_67 : decode (rm_code mM_opensFile) 67 = .ok (.bipush (44), 2) := by decide +kernel
theorem d_M_opensFile_69 : decode (rm_code mM_opensFile) 69 = .ok (.if_icmp .eq (12), 3) := by decide +kernel
theorem d_M_opensFile_72 : decode (rm_code mM_opensFile) 72 = .ok (.iload 5, 2) := by decide +kernel
theorem d_M_opensFile_74 : decode (rm_code mM_opensFile) 74 = .ok (.iconst 1, 1) := by decide +kernel
theorem d_M_opensFile_75 : decode (rm_code mM_opensFile) 75 = .ok (.iadd, 1) := by decide +kernel
theorem d_M_opensFile_76 : decode (rm_code mM_opensFile) 76 = .ok (.istore 5, 2) := by decide +kernel
theorem d_M_opensFile_78 : decode (rm_code mM_opensFile) 78 = .ok (.goto (-24), 3) := by decide +kernel
theorem d_M_opensFile_81 : decode (rm_code mM_opensFile) 81 = .ok (.iload 5, 2) := by decide +kernel
theorem d_M_opensFile_83 : decode (rm_code mM_opensFile) 83 = .ok (.iload_n 3, 1) := by decide +kernel
theorem d_M_opensFile_84 : decode (rm_code mM_opensFile) 84 = .ok (.isub, 1) := by decide +kernel
theorem d_M_opensFile_85 : decode (rm_code mM_opensFile) 85 = .ok (.istore 6, 2) := by decide +kernel
theorem d_M_opensFile_87 : decode (rm_code mM_opensFile) 87 = .ok (.iload 6, 2) := by decide +kernel
theorem d_M_opensFile_89 : decode (rm_code mM_opensFile) 89 = .ok (.ifCond .ne (12), 3) := by decide +kernel
theorem d_M_opensFile_92 : decode (rm_code mM_opensFile) 92 = .ok (.aload_n 0, 1) := by decide +kernel
theorem d_M_opensFile_93 : decode (rm_code mM_opensFile) 93 = .ok (.bipush (34), 2) := by decide +kernel
theorem d_M_opensFile_95 : decode (rm_code mM_opensFile) 95 = .ok (.iconst 0, 1) := by decide +kernel
theorem d_M_opensFile_96 : decode (rm_code mM_opensFile) 96 = .ok (.iconst 0, 1) := by decide +kernel
theorem d_M_opensFile_97 : decode (rm_code mM_opensFile) 97 = .ok (.invokevirtual 113, 3) := by decide +kernel
theorem d_M_opensFile_100 : decode (rm_code mM_opensFile) 100 = .ok (.ireturn, 1) := by decide +kernel
theorem d_M_opensFile_101 : decode (rm_code mM_opensFile) 101 = .ok (.iload 6, 2) := by decide +kernel
theorem d_M_opensFile_103 : decode (rm_code mM_opensFile) 103 = .ok (.bipush (10), 2) := by decide +kernel
theorem d_M_opensFile_105 : decode (rm_code mM_opensFile) 105 = .ok (.if_icmp .le (12), 3) := by decide +kernel
theorem d_M_opensFile_108 : decode (rm_code mM_opensFile) 108 = .ok (.aload_n 0, 1) := by decide +kernel
theorem d_M_opensFile_109 : decode (rm_code mM_opensFile) 109 = .ok (.bipush (30), 2) := by decide +kernel
theorem d_M_opensFile_111 : decode (rm_code mM_opensFile) 111 = .ok (.iconst 0, 1) := by decide +kernel
theorem d_M_opensFile_112 : decode (rm_code mM_opensFile) 112 = .ok (.iconst 0, 1) := by decide +kernel
theorem d_M_opensFile_113 : decode (rm_code mM_opensFile) 113 = .ok (.invokevirtual 113, 3) := by decide +kernel
theorem d_M_opensFile_116 : decode (rm_code mM_opensFile) 116 = .ok (.ireturn, 1) := by decide +kernel
theorem d_M_opensFile_117 : decode (rm_code mM_opensFile) 117 = .ok (.iconst 0, 1) := by decide +kernel
theorem d_M_opensFile_118 : decode (rm_code mM_opensFile) 118 = .ok (.istore 7, 2) := by decide +kernel
theorem d_M_opensFile_120 : decode (rm_code mM_opensFile) 120 = .ok (.iload 5, 2) := by decide +kernel
theorem d_M_opensFile_122 : decode (rm_code mM_opensFile) 122 = .ok (.iconst 1, 1) := by decide +kernel
theorem d_M_opensFile_123 : decode (rm_code mM_opensFile) 123 = .ok (.iadd, 1) := by decide +kernel
theorem d_M_opensFile_124 : decode (rm_code mM_opensFile) 124 = .ok (.iload_n 2, 1) := by decide +kernel
theorem d_M_opensFile_125 : decode (rm_code mM_opensFile) 125 = .ok (.if_icmp .ge (90), 3) := by decide +kernel
theorem d_M_opensFile_128 : decode (rm_code mM_opensFile) 128 = .ok (.aload_n 0, 1) := by decide +kernel
theorem d_M_opensFile_129 : decode (rm_code mM_opensFile) 129 = .ok (.getfield 260, 3) := by decide +kernel
theorem d_M_opensFile_132 : decode (rm_code mM_opensFile) 132 = .ok (.iload 5, 2) := by decide +kernel
theorem d_M_opensFile_134 : decode (rm_code mM_opensFile) 134 = .ok (.iconst 1, 1) := by decide +kernel
theorem d_M_opensFile_135 : decode (rm_code mM_opensFile) 135 = .ok (.iadd, 1) := by decide +kernel
theorem d_M_opensFile_136 : decode (rm_code mM_opensFile) 136 = .ok (.iaload, 1) := by decide +kernel
theorem d_M_opensFile_137 : decode (rm_code mM_opensFile) 137 = .ok (.bipush (83), 2) := by decide +kernel
theorem d_M_opensFile_139 : decode (rm_code mM_opensFile) 139 = .ok (.if_icmp .eq (31), 3) := by decide +kernel
theorem d_M_opensFile_142 : decode (rm_code mM_opensFile) 142 = .ok (.aload_n 0, 1) := by decide +kernel
theorem d_M_opensFile_143 : decode (rm_code mM_opensFile) 143 = .ok (.getfield 260, 3) := by decide +kernel
theorem d_M_opensFile_146 : decode (rm_code mM_opensFile) 146 = .ok (.iload 5, 2) := by decide +kernel
theorem d_M_opensFile_148 : decode (rm_code mM_opensFile) 148 = .ok (.iconst 1, 1) := by decide +kernel
theorem d_M_opensFile_149 : decode (rm_code mM_opensFile) 149 = .ok (.iadd, 1) := by decide +kernel
theorem d_M_opensFile_150 : decode (rm_code mM_opensFile) 150 = .ok (.iaload, 1) := by decide +kernel
theorem d_M_opensFile_151 : decode (rm_code mM_opensFile) 151 = .ok (.bipush (80), 2) := by decide +kernel
theorem d_M_opensFile_153 : decode (rm_code mM_opensFile) 153 = .ok (.if_icmp .eq (17), 3) := by decide +kernel
theorem d_M_opensFile_156 : decode (rm_code mM_opensFile) 156 = .ok (.aload_n 0, 1) := by decide +kernel
theorem d_M_opensFile_157 : decode (rm_code mM_opensFile) 157 = .ok (.getfield 260, 3) := by decide +kernel
theorem d_M_opensFile_160 : decode (rm_code mM_opensFile) 160 = .ok (.iload 5, 2) := by decide +kernel
theorem d_M_opensFile_162 : decode (rm_code mM_opensFile) 162 = .ok (.iconst 1, 1) := by decide +kernel
theorem d_M_opensFile_163 : decode (rm_code mM_opensFile) 163 = .ok (.iadd, 1) := by decide +kernel
theorem d_M_opensFile_164 : decode (rm_code mM_opensFile) 164 = .ok (.iaload, 1) := by decide +kernel
theorem d_M_opensFile_165 : decode (rm_code mM_opensFile) 165 = .ok (.bipush (85), 2) := by decide +kernel
theorem d_M_opensFile_167 : decode (rm_code mM_opensFile) 167 = .ok (.if_icmp .ne (48), 3) := by decide +kernel
theorem d_M_opensFile_170 : decode (rm_code mM_opensFile) 170 = .ok (.aload_n 0, 1) := by decide +kernel
theorem d_M_opensFile_171 : decode (rm_code mM_opensFile) 171 = .ok (.getfield 260, 3) := by decide +kernel
theorem d_M_opensFile_174 : decode (rm_code mM_opensFile) 174 = .ok (.iload 5, 2) := by decide +kernel
theorem d_M_opensFile_176 : decode (rm_code mM_opensFile) 176 = .ok (.iconst 1, 1) := by decide +kernel
theorem d_M_opensFile_177 : decode (rm_code mM_opensFile) 177 = .ok (.iadd, 1) := by decide +kernel
theorem d_M_opensFile_178 : decode (rm_code mM_opensFile) 178 = .ok (.iaload, 1) := by decide +kernel
theorem d_M_opensFile_179 : decode (rm_code mM_opensFile) 179 = .ok (.bipush (83), 2) := by decide +kernel
theorem d_M_opensFile_181 : decode (rm_code mM_opensFile) 181 = .ok (.if_icmp .ne (7), 3) := by decide +kernel
theorem d_M_opensFile_184 : decode (rm_code mM_opensFile) 184 = .ok (.iconst 1, 1) := by decide +kernel
theorem d_M_opensFile_185 : decode (rm_code mM_opensFile) 185 = .ok (.goto (22), 3) := by decide +kernel
theorem d_M_opensFile_188 : decode (rm_code mM_opensFile) 188 = .ok (.aload_n 0, 1) := by decide +kernel
theorem d_M_opensFile_189 : decode (rm_code mM_opensFile) 189 = .ok (.getfield 260, 3) := by decide +kernel
theorem d_M_opensFile_192 : decode (rm_code mM_opensFile) 192 = .ok (.iload 5, 2) := by decide +kernel
theorem d_M_opensFile_194 : decode (rm_code mM_opensFile) 194 = .ok (.iconst 1, 1) := by decide +kernel
theorem d_M_opensFile_195 : decode (rm_code mM_opensFile) 195 = .ok (.iadd, 1) := by decide +kernel
theorem d_M_opensFile_196 : decode (rm_code mM_opensFile) 196 = .ok (.iaload, 1) := by decide +kernel
theorem d_M_opensFile_197 : decode (rm_code mM_opensFile) 197 = .ok (.bipush (80), 2) := by decide +kernel
theorem d_M_opensFile_199 : decode (rm_code mM_opensFile) 199 = .ok (.if_icmp .ne (7), 3) := by decide +kernel
theorem d_M_opensFile_202 : decode (rm_code mM_opensFile) 202 = .ok (.iconst 2, 1) := by decide +kernel
theorem d_M_opensFile_203 : decode (rm_code mM_opensFile) 203 = .ok (.goto (4), 3) := by decide +kernel
theorem d_M_opensFile_206 : decode (rm_code mM_opensFile) 206 = .ok (.iconst 3, 1) := by decide +kernel
theorem d_M_opensFile_207 : decode (rm_code mM_opensFile) 207 = .ok (.istore 7, 2) := by decide +kernel
theorem d_M_opensFile_209 : decode (rm_code mM_opensFile) 209 = .ok (.iload 5, 2) := by decide +kernel
theorem d_M_opensFile_211 : decode (rm_code mM_opensFile) 211 = .ok (.iconst 2, 1) := by decide +kernel
theorem d_M_opensFile_212 : decode (rm_code mM_opensFile) 212 = .ok (.iadd, 1) := by decide +kernel
theorem d_M_opensFile_213 : decode (rm_code mM_opensFile) 213 = .ok (.istore 5, 2) := by decide +kernel
theorem d_M_opensFile_215 : decode (rm_code mM_opensFile) 215 = .ok (.iconst 0, 1) := by decide +kernel
theorem d_M_opensFile_216 : decode (rm_code mM_opensFile) 216 = .ok (.istore 8, 2) := by decide +kernel
theorem d_M_opensFile_218 : decode (rm_code mM_opensFile) 218 = .ok (.iload 5, 2) := by decide +kernel
theorem d_M_opensFile_220 : decode (rm_code mM_opensFile) 220 = .ok (.iconst 1, 1) := by decide +kernel
theorem d_M_opensFile_221 : decode (rm_code mM_opensFile) 221 = .ok (.iadd, 1) := by decide +kernel
theorem d_M_opensFile_222 : decode (rm_code mM_opensFile) 222 = .ok (.iload_n 2, 1) := by decide +kernel
theorem d_M_opensFile_223 : decode (rm_code mM_opensFile) 223 = .ok (.if_icmp .ge (60), 3) := by decide +kernel
theorem d_M_opensFile_226 : decode (rm_code mM_opensFile) 226 = .ok (.aload_n 0, 1) := by decide +kernel
theorem d_M_opensFile_227 : decode (rm_code mM_opensFile) 227 = .ok (.getfield 260, 3) := by decide +kernel
theorem d_M_opensFile_230 : decode (rm_code mM_opensFile) 230 = .ok (.iload 5, 2) := by decide +kernel
theorem d_M_opensFile_232 : decode (rm_code mM_opensFile) 232 = .ok (.iaload, 1) := by decide +kernel
theorem d_M_opensFile_233 : decode (rm_code mM_opensFile) 233 = .ok (.bipush (44), 2) := by decide +kernel
theorem d_M_opensFile_235 : decode (rm_code mM_opensFile) 235 = .ok (.if_icmp .ne (48), 3) := by decide +kernel
theorem d_M_opensFile_238 : decode (rm_code mM_opensFile) 238 = .ok (.aload_n 0, 1) := by decide +kernel
theorem d_M_opensFile_239 : decode (rm_code mM_opensFile) 239 = .ok (.getfield 260, 3) := by decide +kernel
theorem d_M_opensFile_242 : decode (rm_code mM_opensFile) 242 = .ok (.iload 5, 2) := by decide +kernel
theorem d_M_opensFile_244 : decode (rm_code mM_opensFile) 244 = .ok (.iconst 1, 1) := by decide +kernel
theorem d_M_opensFile_245 : decode (rm_code mM_opensFile) 245 = .ok (.iadd, 1) := by decide +kernel
theorem d_M_opensFile_246 : decode (rm_code mM_opensFile) 246 = .ok (.iaload, 1) := by decide +kernel
theorem d_M_opensFile_247 : decode (rm_code mM_opensFile) 247 = .ok (.bipush (82), 2) := by decide +kernel
theorem d_M_opensFile_249 : decode (rm_code mM_opensFile) 249 = .ok (.if_icmp .eq (17), 3) := by decide +kernel
theorem d_M_opensFile_252 : decode (rm_code mM_opensFile) 252 = .ok (.aload_n 0, 1) := by decide +kernel
theorem d_M_opensFile_253 : decode (rm_code mM_opensFile) 253 = .ok (.getfield 260, 3) := by decide +kernel
theorem d_M_opensFile_256 : decode (rm_code mM_opensFile) 256 = .ok (.iload 5, 2) := by decide +kernel
theorem d_M_opensFile_258 : decode (rm_code mM_opensFile) 258 = .ok (.iconst 1, 1) := by decide +kernel
theorem d_M_opensFile_259 : decode (rm_code mM_opensFile) 259 = .ok (.iadd, 1) := by decide +kernel
theorem d_M_opensFile_260 : decode (rm_code mM_opensFile) 260 = .ok (.iaload, 1) := by decide +kernel
theorem d_M_opensFile_261 : decode (rm_code mM_opensFile) 261 = .ok (.bipush (87), 2) := by decide +kernel
theorem d_M_opensFile_263 : decode (rm_code mM_opensFile) 263 = .ok (.if_icmp .ne (20), 3) := by decide +kernel
theorem d_M_opensFile_266 : decode (rm_code mM_opensFile) 266 = .ok (.aload_n 0, 1) := by decide +kernel
theorem d_M_opensFile_267 : decode (rm_code mM_opensFile) 267 = .ok (.getfield 260, 3) := by decide +kernel
theorem d_M_opensFile_270 : decode (rm_code mM_opensFile) 270 = .ok (.iload 5, 2) := by decide +kernel
theorem d_M_opensFile_272 : decode (rm_code mM_opensFile) 272 = .ok (.iconst 1, 1) := by decide +kernel
theorem d_M_opensFile_273 : decode (rm_code mM_opensFile) 273 = .ok (.iadd, 1) := by decide +kernel
theorem d_M_opensFile_274 : decode (rm_code mM_opensFile) 274 = .ok (.iaload, 1) := by decide +kernel
theorem d_M_opensFile_275 : decode (rm_code mM_opensFile) 275 = .ok (.istore 8, 2) := by decide +kernel
theorem d_M_opensFile_277 : decode (rm_code mM_opensFile) 277 = .ok (.iload 5, 2) := by decide +kernel
theorem d_M_opensFile_279 : decode (rm_code mM_opensFile) 279 = .ok (.iconst 2, 1) := by decide +kernel
theorem d_M_opensFile_280 : decode (rm_code mM_opensFile) 280 = .ok (.iadd, 1) := by decide +kernel
theorem d_M_opensFile_281 : decode (rm_code mM_opensFile) 281 = .ok (.istore 5, 2) := by decide +kernel
theorem d_M_opensFile_283 : decode (rm_code mM_opensFile) 283 = .ok (.iload 5, 2) := by decide +kernel
theorem d_M_opensFile_285 : decode (rm_code mM_opensFile) 285 = .ok (.iload_n 2, 1) := by decide +kernel
theorem d_M_opensFile_286 : decode (rm_code mM_opensFile) 286 = .ok (.if_icmp .ge (12), 3) := by decide +kernel
theorem d_M_opensFile_289 : decode (rm_code mM_opensFile) 289 = .ok (.aload_n 0, 1) := by decide +kernel
theorem d_M_opensFile_290 : decode (rm_code mM_opensFile) 290 = .ok (.bipush (30), 2) := by decide +kernel
theorem d_M_opensFile_292 : decode (rm_code mM_opensFile) 292 = .ok (.iconst 0, 1) := by decide +kernel
theorem d_M_opensFile_293 : decode (rm_code mM_opensFile) 293 = .ok (.iconst 0, 1) := by decide +kernel
theorem d_M_opensFile_294 : decode (rm_code mM_opensFile) 294 = .ok (.invokevirtual 113, 3) := by decide +kernel
theorem d_M_opensFile_297 : decode (rm_code mM_opensFile) 297 = .ok (.ireturn, 1) := by decide +kernel
theorem d_M_opensFile_298 : decode (rm_code mM_opensFile) 298 = .ok (.iload 8, 2) := by decide +kernel
theorem d_M_opensFile_300 : decode (rm_code mM_opensFile) 300 = .ok (.bipush (87), 2) := by decide +kernel
theorem d_M_opensFile_302 : decode (rm_code mM_opensFile) 302 = .ok (.if_icmp .eq (13), 3) := by decide +kernel
theorem d_M_opensFile_305 : decode (rm_code mM_opensFile) 305 = .ok (.iload 8, 2) := by decide +kernel
theorem d_M_opensFile_307 : decode (rm_code mM_opensFile) 307 = .ok (.ifCond .ne (12), 3) := by decide +kernel
theorem d_M_opensFile_310 : decode (rm_code mM_opensFile) 310 = .ok (.iload_n 1, 1) := by decide +kernel
theorem d_M_opensFile_311 : decode (rm_code mM_opensFile) 311 = .ok (.iconst 1, 1) := by decide +kernel
theorem d_M_opensFile_312 : decode (rm_code mM_opensFile) 312 = .ok (.if_icmp .ne (7), 3) := by decide +kernel
theorem d_M_opensFile_315 : decode (rm_code mM_opensFile) 315 = .ok (.iconst 1, 1) := by decide +kernel
theorem d_M_opensFile_316 : decode (rm_code mM_opensFile) 316 = .ok (.goto (4), 3) := by decide +kernel
theorem d_M_opensFile_319 : decode (rm_code mM_opensFile) 319 = .ok (.iconst 0, 1) := by decide +kernel
theorem d_M_opensFile_320 : decode (rm_code mM_opensFile) 320 = .ok (.istore 9, 2) := by decide +kernel
theorem d_M_opensFile_322 : decode (rm_code mM_opensFile) 322 = .ok (.iload 7, 2) := by decide +kernel
theorem d_M_opensFile_324 : decode (rm_code mM_opensFile) 324 = .ok (.ifCond .ne (24), 3) := by decide +kernel
theorem d_M_opensFile_327 : decode (rm_code mM_opensFile) 327 = .ok (.iload_n 1, 1) := by decide +kernel
theorem d_M_opensFile_328 : decode (rm_code mM_opensFile) 328 = .ok (.iconst 2, 1) := by decide +kernel
theorem d_M_opensFile_329 : decode (rm_code mM_opensFile) 329 = .ok (.if_icmp .ge (7), 3) := by decide +kernel
theorem d_M_opensFile_332 : decode (rm_code mM_opensFile) 332 = .ok (.iconst 2, 1) := by decide +kernel
theorem d_M_opensFile_333 : decode (rm_code mM_opensFile) 333 = .ok (.goto (13), 3) := by decide +kernel
theorem d_M_opensFile_336 : decode (rm_code mM_opensFile) 336 = .ok (.iload 9, 2) := by decide +kernel
theorem d_M_opensFile_338 : decode (rm_code mM_opensFile) 338 = .ok (.ifCond .eq (7), 3) := by decide +kernel
theorem d_M_opensFile_341 : decode (rm_code mM_opensFile) 341 = .ok (.iconst 1, 1) := by decide +kernel
theorem d_M_opensFile_342 : decode (rm_code mM_opensFile) 342 = .ok (.goto (4), 3) := by decide +kernel
theorem d_M_opensFile_345 : decode (rm_code mM_opensFile) 345 = .ok (.iconst 0, 1) := by decide +kernel
theorem d_M_opensFile_346 : decode (rm_code mM_opensFile) 346 = .ok (.istore 7, 2) := by decide +kernel
theorem d_M_opensFile_348 : decode (rm_code mM_opensFile) 348 = .ok (.iload 4, 2) := by decide +kernel
theorem d_M_opensFile_350 : decode (rm_code mM_opensFile) 350 = .ok (.ifCond .eq (17), 3) := by decide +kernel
theorem d_M_opensFile_353 : decode (rm_code mM_opensFile) 353 = .ok (.iload 9, 2) := by decide +kernel
theorem d_M_opensFile_355 : decode (rm_code mM_opensFile) 355 = .ok (.ifCond .ne (12), 3) := by decide +kernel
theorem d_M_opensFile_358 : decode (rm_code mM_opensFile) 358 = .ok (.aload_n 0, 1) := by decide +kernel
theorem d_M_opensFile_359 : decode (rm_code mM_opensFile) 359 = .ok (.bipush (30), 2) := by decide +kernel
theorem d_M_opensFile_361 : decode (rm_code mM_opensFile) 361 = .ok (.iconst 0, 1) := by decide +kernel
theorem d_M_opensFile_362 : decode (rm_code mM_opensFile) 362 = .ok (.iconst 0, 1) := by decide +kernel
theorem d_M_opensFile_363 : decode (rm_code mM_opensFile) 363 = .ok (.invokevirtual 113, 3) := by decide +kernel
theorem d_M_opensFile_366 : decode (rm_code mM_opensFile) 366 = .ok (.ireturn, 1) := by decide +kernel
theorem d_M_opensFile_367 : decode (rm_code mM_opensFile) 367 = .ok (.iload 9, 2) := by decide +kernel
theorem d_M_opensFile_369 : decode (rm_code mM_opensFile) 369 = .ok (.ifCond .eq (18), 3) := by decide +kernel
theorem d_M_opensFile_372 : decode (rm_code mM_opensFile) 372 = .ok (.aload_n 0, 1) := by decide +kernel
theorem d_M_opensFile_373 : decode (rm_code mM_opensFile) 373 = .ok (.iload_n 1, 1) := by decide +kernel
theorem d_M_opensFile_374 : decode (rm_code mM_opensFile) 374 = .ok (.iload_n 3, 1) := by decide +kernel
theorem d_M_opensFile_375 : decode (rm_code mM_opensFile) 375 = .ok (.iload 6, 2) := by decide +kernel
theorem d_M_opensFile_377 : decode (rm_code mM_opensFile) 377 = .ok (.iload 7, 2) := by decide +kernel
theorem d_M_opensFile_379 : decode (rm_code mM_opensFile) 379 = .ok (.iload 4, 2) := by decide +kernel
theorem d_M_opensFile_381 : decode (rm_code mM_opensFile) 381 = .ok (.invokevirtual 311, 3) := by decide +kernel
theorem d_M_opensFile_384 : decode (rm_code mM_opensFile) 384 = .ok (.goto (13), 3) := by decide +kernel
theorem d_M_opensFile_387 : decode (rm_code mM_opensFile) 387 = .ok (.aload_n 0, 1) := by decide +kernel
theorem d_M_opensFile_388 : decode (rm_code mM_opensFile) 388 = .ok (.iload_n 1, 1) := by decide +kernel
theorem d_M_opensFile_389 : decode (rm_code mM_opensFile) 389 = .ok (.iload_n 3, 1) := by decide +kernel
theorem d_M_opensFile_390 : decode (rm_code mM_opensFile) 390 = .ok (.iload 6, 2) := by decide +kernel
theorem d_M_opensFile_392 : decode (rm_code mM_opensFile) 392 = .ok (.iload 7, 2) := by decide +kernel
theorem d_M_opensFile_394 : decode (rm_code mM_opensFile) 394 = .ok (.invokevirtual 315, 3) := by decide +kernel
theorem d_M_opensFile_397 : decode (rm_code mM_opensFile) 397 = .ok (.ireturn, 1) := by decide +kernel
theorem p_M_opensFile_0 {S : rz_S} {K : Int32 → rz_S → Prop} {a1 : Int32} {a2 : Int32} (w : ((a2 ≤ 0 → rz mM_opensFile 21 [(0, .ref 116), (1, .int a1), (2, .int a2), (3, .int 0)] [] S (rz_i K)) ∧ (¬ a2 ≤ 0 → ((S.1 151 0 = 64 → rz mM_opensFile 22 [(0, .ref 116), (1, .int a1), (2, .int a2), (3, .int 0)] [.int 1] S (rz_i K)) ∧ (¬ S.1 151 0 = 64 → rz mM_opensFile 21 [(0, .ref 116), (1, .int a1), (2, .int a2), (3, .int 0)] [] S (rz_i K)))))) : rz mM_opensFile 0 [(0, .ref 116), (1, .int a1), (2, .int a2)] [] S (rz_i K) := by
  refine rz_iconst (v := 0) d_M_opensFile_0 (by decide) ?_
  refine rz_pure (pc' := 2) (l' := [(3, .int 0), (0, .ref 116), (1, .int a1), (2, .int a2)]) d_M_opensFile_1 rfl ?_
  refine rz_pure (pc' := 3) d_M_opensFile_2 rfl ?_
  refine rz_ifle (tgt := 21) d_M_opensFile_3 rfl (fun b1 => ?_) (fun b1 => ?_)
  · skip
    exact rz_pick (ks := [0, 1, 2, 3]) (l := [(0, .ref 116), (1, .int a1), (2, .int a2), (3, .int 0)]) rfl rfl (by decide) rfl (w.1 b1)
  · skip
    refine rz_pure (pc' := 7) d_M_opensFile_6 rfl ?_
    refine rz_getr d_M_opensFile_7 f_12_260 rfl rfl ?_
    refine rz_iconst (v := 0) d_M_opensFile_10 (by decide) ?_
    refine rz_ialdv (F := S.1 151) (i := 0) d_M_opensFile_11 rfl (by decide) rfl (by decide) ?_
    refine rz_bipush (v := 64) d_M_opensFile_12 (by decide) ?_
    refine rz_icmpne (tgt := 21) d_M_opensFile_14 rfl (fun b2 => ?_) (fun b2 => ?_)
    · skip
      exact rz_pick (ks := [0, 1, 2, 3]) (l := [(0, .ref 116), (1, .int a1), (2, .int a2), (3, .int 0)]) rfl rfl (by decide) rfl ((w.2 b1).2 b2)
    · skip
      refine rz_iconst (v := 1) d_M_opensFile_17 (by decide) ?_
      refine rz_pure (pc' := 22) d_M_opensFile_18 rfl ?_
      exact rz_pick (ks := [0, 1, 2, 3]) (l := [(0, .ref 116), (1, .int a1), (2, .int a2), (3, .int 0)]) rfl rfl (by decide) rfl ((w.2 b1).1 b2)
theorem p_M_opensFile_21 {S : rz_S} {K : Int32 → rz_S → Prop} {a1 : Int32} {a2 : Int32} {a3 : Int32} (w : rz mM_opensFile 22 [(0, .ref 116), (1, .int a1), (2, .int a2), (3, .int a3)] [.int 0] S (rz_i K)) : rz mM_opensFile 21 [(0, .ref 116), (1, .int a1), (2, .int a2), (3, .int a3)] [] S (rz_i K) := by
  refine rz_iconst (v := 0) d_M_opensFile_21 (by decide) ?_
  exact rz_pick (ks := [0, 1, 2, 3]) (l := [(0, .ref 116), (1, .int a1), (2, .int a2), (3, .int a3)]) rfl rfl (by decide) rfl w
theorem p_M_opensFile_22 {S : rz_S} {K : Int32 → rz_S → Prop} {a1 : Int32} {a2 : Int32} {a3 : Int32} {s0 : Int32} (w : ((s0 = 0 → rz mM_opensFile 31 [(0, .ref 116), (1, .int a1), (2, .int a2), (3, .int a3), (4, .int s0)] [] S (rz_i K)) ∧ (¬ s0 = 0 → rz mM_opensFile 31 [(0, .ref 116), (1, .int a1), (2, .int a2), (3, .int 1), (4, .int s0)] [] S (rz_i K)))) : rz mM_opensFile 22 [(0, .ref 116), (1, .int a1), (2, .int a2), (3, .int a3)] [.int s0] S (rz_i K) := by
  refine rz_pure (pc' := 24) (l' := [(4, .int s0), (0, .ref 116), (1, .int a1), (2, .int a2), (3, .int a3)]) d_M_opensFile_22 rfl ?_
  refine rz_pure (pc' := 26) d_M_opensFile_24 rfl ?_
  refine rz_ifeq (tgt := 31) d_M_opensFile_26 rfl (fun b1 => ?_) (fun b1 => ?_)
  · skip
    exact rz_pick (ks := [0, 1, 2, 3, 4]) (l := [(0, .ref 116), (1, .int a1), (2, .int a2), (3, .int a3), (4, .int s0)]) rfl rfl (by decide) rfl (w.1 b1)
  · skip
    refine rz_iconst (v := 1) d_M_opensFile_29 (by decide) ?_
    refine rz_pure (pc' := 31) (l' := [(3, .int 1), (4, .int s0), (0, .ref 116), (1, .int a1), (2, .int a2)]) d_M_opensFile_30 rfl ?_
    exact rz_pick (ks := [0, 1, 2, 3, 4]) (l := [(0, .ref 116), (1, .int a1), (2, .int a2), (3, .int 1), (4, .int s0)]) rfl rfl (by decide) rfl (w.2 b1)
theorem p_M_opensFile_31 {S : rz_S} {K : Int32 → rz_S → Prop} {a1 : Int32} {a2 : Int32} {a3 : Int32} {a4 : Int32} (w : ((a2 ≤ a3 → rz mM_opensFile 54 [(0, .ref 116), (1, .int a1), (2, .int a2), (3, .int a3), (4, .int a4), (5, .int a3)] [] S (rz_i K)) ∧ (¬ a2 ≤ a3 → rx_in a3 401 = true ∧ ((S.1 151 a3.toNatClampNeg = 58 → rz mM_opensFile 54 [(0, .ref 116), (1, .int a1), (2, .int a2), (3, .int (a3 + 1)), (4, .int a4), (5, .int (a3 + 1))] [] S (rz_i K)) ∧ (¬ S.1 151 a3.toNatClampNeg = 58 → rz mM_opensFile 54 [(0, .ref 116), (1, .int a1), (2, .int a2), (3, .int a3), (4, .int a4), (5, .int a3)] [] S (rz_i K)))))) : rz mM_opensFile 31 [(0, .ref 116), (1, .int a1), (2, .int a2), (3, .int a3), (4, .int a4)] [] S (rz_i K) := by
  refine rz_pure (pc' := 32) d_M_opensFile_31 rfl ?_
  refine rz_pure (pc' := 33) d_M_opensFile_32 rfl ?_
  refine rz_icmpge (tgt := 51) d_M_opensFile_33 rfl (fun b1 => ?_) (fun b1 => ?_)
  · skip
    refine rz_pure (pc' := 52) d_M_opensFile_51 rfl ?_
    refine rz_pure (pc' := 54) (l' := [(5, .int a3), (0, .ref 116), (1, .int a1), (2, .int a2), (3, .int a3), (4, .int a4)]) d_M_opensFile_52 rfl ?_
    exact rz_pick (ks := [0, 1, 2, 3, 4, 5]) (l := [(0, .ref 116), (1, .int a1), (2, .int a2), (3, .int a3), (4, .int a4), (5, .int a3)]) rfl rfl (by decide) rfl (w.1 b1)
  · skip
    refine rz_pure (pc' := 37) d_M_opensFile_36 rfl ?_
    refine rz_getr d_M_opensFile_37 f_12_260 rfl rfl ?_
    refine rz_pure (pc' := 41) d_M_opensFile_40 rfl ?_
    refine rz_ialdv (F := S.1 151) (i := a3.toNatClampNeg) d_M_opensFile_41 rfl (w.2 b1).1 rfl rfl ?_
    refine rz_bipush (v := 58) d_M_opensFile_42 (by decide) ?_
    refine rz_icmpne (tgt := 51) d_M_opensFile_44 rfl (fun b2 => ?_) (fun b2 => ?_)
    · skip
      refine rz_pure (pc' := 52) d_M_opensFile_51 rfl ?_
      refine rz_pure (pc' := 54) (l' := [(5, .int a3), (0, .ref 116), (1, .int a1), (2, .int a2), (3, .int a3), (4, .int a4)]) d_M_opensFile_52 rfl ?_
      exact rz_pick (ks := [0, 1, 2, 3, 4, 5]) (l := [(0, .ref 116), (1, .int a1), (2, .int a2), (3, .int a3), (4, .int a4), (5, .int a3)]) rfl rfl (by decide) rfl ((w.2 b1).2.2 b2)
    · skip
      refine rz_pure (pc' := 48) d_M_opensFile_47 rfl ?_
      refine rz_iconst (v := 1) d_M_opensFile_48 (by decide) ?_
      refine rz_iadd d_M_opensFile_49 ?_
      refine rz_pure (pc' := 51) (l' := [(3, .int (a3 + 1)), (0, .ref 116), (1, .int a1), (2, .int a2), (4, .int a4)]) d_M_opensFile_50 rfl ?_
      refine rz_pure (pc' := 52) d_M_opensFile_51 rfl ?_
      refine rz_pure (pc' := 54) (l' := [(5, .int (a3 + 1)), (3, .int (a3 + 1)), (0, .ref 116), (1, .int a1), (2, .int a2), (4, .int a4)]) d_M_opensFile_52 rfl ?_
      exact rz_pick (ks := [0, 1, 2, 3, 4, 5]) (l := [(0, .ref 116), (1, .int a1), (2, .int a2), (3, .int (a3 + 1)), (4, .int a4), (5, .int (a3 + 1))]) rfl rfl (by decide) rfl ((w.2 b1).2.1 b2)
theorem p_M_opensFile_54 {S : rz_S} {K : Int32 → rz_S → Prop} {a1 : Int32} {a2 : Int32} {a3 : Int32} {a4 : Int32} {a5 : Int32} (w : ((a2 ≤ a5 → rz mM_opensFile 81 [(0, .ref 116), (1, .int a1), (2, .int a2), (3, .int a3), (4, .int a4), (5, .int a5)] [] S (rz_i K)) ∧ (¬ a2 ≤ a5 → rx_in a5 401 = true ∧ ((S.1 151 a5.toNatClampNeg = 44 → rz mM_opensFile 81 [(0, .ref 116), (1, .int a1), (2, .int a2), (3, .int a3), (4, .int a4), (5, .int a5)] [] S (rz_i K)) ∧ (¬ S.1 151 a5.toNatClampNeg = 44 → rz mM_opensFile 54 [(0, .ref 116), (1, .int a1), (2, .int a2), (3, .int a3), (4, .int a4), (5, .int (a5 + 1))] [] S (rz_i K)))))) : rz mM_opensFile 54 [(0, .ref 116), (1, .int a1), (2, .int a2), (3, .int a3), (4, .int a4), (5, .int a5)] [] S (rz_i K) := by
  refine rz_pure (pc' := 56) d_M_opensFile_54 rfl ?_
  refine rz_pure (pc' := 57) d_M_opensFile_56 rfl ?_
  refine rz_icmpge (tgt := 81) d_M_opensFile_57 rfl (fun b1 => ?_) (fun b1 => ?_)
  · skip
    exact rz_pick (ks := [0, 1, 2, 3, 4, 5]) (l := [(0, .ref 116), (1, .int a1), (2, .int a2), (3, .int a3), (4, .int a4), (5, .int a5)]) rfl rfl (by decide) rfl (w.1 b1)
  · skip
    refine rz_pure (pc' := 61) d_M_opensFile_60 rfl ?_
    refine rz_getr d_M_opensFile_61 f_12_260 rfl rfl ?_
    refine rz_pure (pc' := 66) d_M_opensFile_64 rfl ?_
    refine rz_ialdv (F := S.1 151) (i := a5.toNatClampNeg) d_M_opensFile_66 rfl (w.2 b1).1 rfl rfl ?_
    refine rz_bipush (v := 44) d_M_opensFile_67 (by decide) ?_
    refine rz_icmpeq (tgt := 81) d_M_opensFile_69 rfl (fun b2 => ?_) (fun b2 => ?_)
    · skip
      exact rz_pick (ks := [0, 1, 2, 3, 4, 5]) (l := [(0, .ref 116), (1, .int a1), (2, .int a2), (3, .int a3), (4, .int a4), (5, .int a5)]) rfl rfl (by decide) rfl ((w.2 b1).2.1 b2)
    · skip
      refine rz_pure (pc' := 74) d_M_opensFile_72 rfl ?_
      refine rz_iconst (v := 1) d_M_opensFile_74 (by decide) ?_
      refine rz_iadd d_M_opensFile_75 ?_
      refine rz_pure (pc' := 78) (l' := [(5, .int (a5 + 1)), (0, .ref 116), (1, .int a1), (2, .int a2), (3, .int a3), (4, .int a4)]) d_M_opensFile_76 rfl ?_
      refine rz_pure (pc' := 54) d_M_opensFile_78 rfl ?_
      exact rz_pick (ks := [0, 1, 2, 3, 4, 5]) (l := [(0, .ref 116), (1, .int a1), (2, .int a2), (3, .int a3), (4, .int a4), (5, .int (a5 + 1))]) rfl rfl (by decide) rfl ((w.2 b1).2.2 b2)
theorem p_M_opensFile_81 {S : rz_S} {K : Int32 → rz_S → Prop} {a1 : Int32} {a2 : Int32} {a3 : Int32} {a4 : Int32} {a5 : Int32} (w : ((a5 - a3 = 0 → rz_ev mM_fault [.ref 116, .int 34, .int 0, .int 0] S (rz_i (fun xq8 Sq8 => K xq8 Sq8))) ∧ (¬ a5 - a3 = 0 → ((a5 - a3 ≤ 10 → ((a2 ≤ a5 + 1 → rz mM_opensFile 215 [(0, .ref 116), (1, .int a1), (2, .int a2), (3, .int a3), (4, .int a4), (5, .int a5), (6, .int (a5 - a3)), (7, .int 0)] [] S (rz_i K)) ∧ (¬ a2 ≤ a5 + 1 → rx_in (a5 + 1) 401 = true ∧ ((S.1 151 ((a5 + 1).toNatClampNeg) = 83 → rz mM_opensFile 170 [(0, .ref 116), (1, .int a1), (2, .int a2), (3, .int a3), (4, .int a4), (5, .int a5), (6, .int (a5 - a3))] [] S (rz_i K)) ∧ (¬ S.1 151 ((a5 + 1).toNatClampNeg) = 83 → ((S.1 151 ((a5 + 1).toNatClampNeg) = 80 → rz mM_opensFile 170 [(0, .ref 116), (1, .int a1), (2, .int a2), (3, .int a3), (4, .int a4), (5, .int a5), (6, .int (a5 - a3))] [] S (rz_i K)) ∧ (¬ S.1 151 ((a5 + 1).toNatClampNeg) = 80 → ((S.1 151 ((a5 + 1).toNatClampNeg) = 85 → rz mM_opensFile 170 [(0, .ref 116), (1, .int a1), (2, .int a2), (3, .int a3), (4, .int a4), (5, .int a5), (6, .int (a5 - a3))] [] S (rz_i K)) ∧ (¬ S.1 151 ((a5 + 1).toNatClampNeg) = 85 → rz mM_opensFile 215 [(0, .ref 116), (1, .int a1), (2, .int a2), (3, .int a3), (4, .int a4), (5, .int a5), (6, .int (a5 - a3)), (7, .int 0)] [] S (rz_i K)))))))))) ∧ (¬ a5 - a3 ≤ 10 → rz_ev mM_fault [.ref 116, .int 30, .int 0, .int 0] S (rz_i (fun xq7 Sq7 => K xq7 Sq7))))))) : rz mM_opensFile 81 [(0, .ref 116), (1, .int a1), (2, .int a2), (3, .int a3), (4, .int a4), (5, .int a5)] [] S (rz_i K) := by
  refine rz_pure (pc' := 83) d_M_opensFile_81 rfl ?_
  refine rz_pure (pc' := 84) d_M_opensFile_83 rfl ?_
  refine rz_isub d_M_opensFile_84 ?_
  refine rz_pure (pc' := 87) (l' := [(6, .int (a5 - a3)), (0, .ref 116), (1, .int a1), (2, .int a2), (3, .int a3), (4, .int a4), (5, .int a5)]) d_M_opensFile_85 rfl ?_
  refine rz_pure (pc' := 89) d_M_opensFile_87 rfl ?_
  refine rz_ifne (tgt := 101) d_M_opensFile_89 rfl (fun b1 => ?_) (fun b1 => ?_)
  · skip
    refine rz_pure (pc' := 103) d_M_opensFile_101 rfl ?_
    refine rz_bipush (v := 10) d_M_opensFile_103 (by decide) ?_
    refine rz_icmple (tgt := 117) d_M_opensFile_105 rfl (fun b2 => ?_) (fun b2 => ?_)
    · skip
      refine rz_iconst (v := 0) d_M_opensFile_117 (by decide) ?_
      refine rz_pure (pc' := 120) (l' := [(7, .int 0), (6, .int (a5 - a3)), (0, .ref 116), (1, .int a1), (2, .int a2), (3, .int a3), (4, .int a4), (5, .int a5)]) d_M_opensFile_118 rfl ?_
      refine rz_pure (pc' := 122) d_M_opensFile_120 rfl ?_
      refine rz_iconst (v := 1) d_M_opensFile_122 (by decide) ?_
      refine rz_iadd d_M_opensFile_123 ?_
      refine rz_pure (pc' := 125) d_M_opensFile_124 rfl ?_
      refine rz_icmpge (tgt := 215) d_M_opensFile_125 rfl (fun b3 => ?_) (fun b3 => ?_)
      · skip
        exact rz_pick (ks := [0, 1, 2, 3, 4, 5, 6, 7]) (l := [(0, .ref 116), (1, .int a1), (2, .int a2), (3, .int a3), (4, .int a4), (5, .int a5), (6, .int (a5 - a3)), (7, .int 0)]) rfl rfl (by decide) rfl (((w.2 b1).1 b2).1 b3)
      · skip
        refine rz_pure (pc' := 129) d_M_opensFile_128 rfl ?_
        refine rz_getr d_M_opensFile_129 f_12_260 rfl rfl ?_
        refine rz_pure (pc' := 134) d_M_opensFile_132 rfl ?_
        refine rz_iconst (v := 1) d_M_opensFile_134 (by decide) ?_
        refine rz_iadd d_M_opensFile_135 ?_
        refine rz_ialdv (F := S.1 151) (i := (a5 + 1).toNatClampNeg) d_M_opensFile_136 rfl (((w.2 b1).1 b2).2 b3).1 rfl rfl ?_
        refine rz_bipush (v := 83) d_M_opensFile_137 (by decide) ?_
        refine rz_icmpeq (tgt := 170) d_M_opensFile_139 rfl (fun b4 => ?_) (fun b4 => ?_)
        · skip
          exact rz_pick (ks := [0, 1, 2, 3, 4, 5, 6]) (l := [(0, .ref 116), (1, .int a1), (2, .int a2), (3, .int a3), (4, .int a4), (5, .int a5), (6, .int (a5 - a3))]) rfl rfl (by decide) rfl ((((w.2 b1).1 b2).2 b3).2.1 b4)
        · skip
          refine rz_pure (pc' := 143) d_M_opensFile_142 rfl ?_
          refine rz_getr d_M_opensFile_143 f_12_260 rfl rfl ?_
          refine rz_pure (pc' := 148) d_M_opensFile_146 rfl ?_
          refine rz_iconst (v := 1) d_M_opensFile_148 (by decide) ?_
          refine rz_iadd d_M_opensFile_149 ?_
          refine rz_ialdv (F := S.1 151) (i := (a5 + 1).toNatClampNeg) d_M_opensFile_150 rfl (((w.2 b1).1 b2).2 b3).1 rfl rfl ?_
          refine rz_bipush (v := 80) d_M_opensFile_151 (by decide) ?_
          refine rz_icmpeq (tgt := 170) d_M_opensFile_153 rfl (fun b5 => ?_) (fun b5 => ?_)
          · skip
            exact rz_pick (ks := [0, 1, 2, 3, 4, 5, 6]) (l := [(0, .ref 116), (1, .int a1), (2, .int a2), (3, .int a3), (4, .int a4), (5, .int a5), (6, .int (a5 - a3))]) rfl rfl (by decide) rfl (((((w.2 b1).1 b2).2 b3).2.2 b4).1 b5)
          · skip
            refine rz_pure (pc' := 157) d_M_opensFile_156 rfl ?_
            refine rz_getr d_M_opensFile_157 f_12_260 rfl rfl ?_
            refine rz_pure (pc' := 162) d_M_opensFile_160 rfl ?_
            refine rz_iconst (v := 1) d_M_opensFile_162 (by decide) ?_
            refine rz_iadd d_M_opensFile_163 ?_
            refine rz_ialdv (F := S.1 151) (i := (a5 + 1).toNatClampNeg) d_M_opensFile_164 rfl (((w.2 b1).1 b2).2 b3).1 rfl rfl ?_
            refine rz_bipush (v := 85) d_M_opensFile_165 (by decide) ?_
            refine rz_icmpne (tgt := 215) d_M_opensFile_167 rfl (fun b6 => ?_) (fun b6 => ?_)
            · skip
              exact rz_pick (ks := [0, 1, 2, 3, 4, 5, 6, 7]) (l := [(0, .ref 116), (1, .int a1), (2, .int a2), (3, .int a3), (4, .int a4), (5, .int a5), (6, .int (a5 - a3)), (7, .int 0)]) rfl rfl (by decide) rfl ((((((w.2 b1).1 b2).2 b3).2.2 b4).2 b5).2 b6)
            · skip
              exact rz_pick (ks := [0, 1, 2, 3, 4, 5, 6]) (l := [(0, .ref 116), (1, .int a1), (2, .int a2), (3, .int a3), (4, .int a4), (5, .int a5), (6, .int (a5 - a3))]) rfl rfl (by decide) rfl ((((((w.2 b1).1 b2).2 b3).2.2 b4).2 b5).1 b6)
    · skip
      refine rz_pure (pc' := 109) d_M_opensFile_108 rfl ?_
      refine rz_bipush (v := 30) d_M_opensFile_109 (by decide) ?_
      refine rz_iconst (v := 0) d_M_opensFile_111 (by decide) ?_
      refine rz_iconst (v := 0) d_M_opensFile_112 (by decide) ?_
      refine rz_callVi (t := [.int 0, .int 0, .int 30]) d_M_opensFile_113 w_12_113 rfl rfl rfl ((w.2 b1).2 b2) (fun xq7 Sq7 q7 => ?_)
      exact rz_ireti d_M_opensFile_116 rfl rfl q7
  · skip
    refine rz_pure (pc' := 93) d_M_opensFile_92 rfl ?_
    refine rz_bipush (v := 34) d_M_opensFile_93 (by decide) ?_
    refine rz_iconst (v := 0) d_M_opensFile_95 (by decide) ?_
    refine rz_iconst (v := 0) d_M_opensFile_96 (by decide) ?_
    refine rz_callVi (t := [.int 0, .int 0, .int 34]) d_M_opensFile_97 w_12_113 rfl rfl rfl (w.1 b1) (fun xq8 Sq8 q8 => ?_)
    exact rz_ireti d_M_opensFile_100 rfl rfl q8
theorem p_M_opensFile_215 {S : rz_S} {K : Int32 → rz_S → Prop} {a1 : Int32} {a2 : Int32} {a3 : Int32} {a4 : Int32} {a5 : Int32} {a6 : Int32} {a7 : Int32} (w : ((a2 ≤ a5 + 1 → rz mM_opensFile 283 [(0, .ref 116), (1, .int a1), (2, .int a2), (3, .int a3), (4, .int a4), (5, .int a5), (6, .int a6), (7, .int a7), (8, .int 0)] [] S (rz_i K)) ∧ (¬ a2 ≤ a5 + 1 → rx_in a5 401 = true ∧ ((S.1 151 a5.toNatClampNeg = 44 → rx_in (a5 + 1) 401 = true ∧ ((S.1 151 ((a5 + 1).toNatClampNeg) = 82 → rz mM_opensFile 266 [(0, .ref 116), (1, .int a1), (2, .int a2), (3, .int a3), (4, .int a4), (5, .int a5), (6, .int a6), (7, .int a7)] [] S (rz_i K)) ∧ (¬ S.1 151 ((a5 + 1).toNatClampNeg) = 82 → ((S.1 151 ((a5 + 1).toNatClampNeg) = 87 → rz mM_opensFile 266 [(0, .ref 116), (1, .int a1), (2, .int a2), (3, .int a3), (4, .int a4), (5, .int a5), (6, .int a6), (7, .int a7)] [] S (rz_i K)) ∧ (¬ S.1 151 ((a5 + 1).toNatClampNeg) = 87 → rz mM_opensFile 283 [(0, .ref 116), (1, .int a1), (2, .int a2), (3, .int a3), (4, .int a4), (5, .int a5), (6, .int a6), (7, .int a7), (8, .int 0)] [] S (rz_i K)))))) ∧ (¬ S.1 151 a5.toNatClampNeg = 44 → rz mM_opensFile 283 [(0, .ref 116), (1, .int a1), (2, .int a2), (3, .int a3), (4, .int a4), (5, .int a5), (6, .int a6), (7, .int a7), (8, .int 0)] [] S (rz_i K)))))) : rz mM_opensFile 215 [(0, .ref 116), (1, .int a1), (2, .int a2), (3, .int a3), (4, .int a4), (5, .int a5), (6, .int a6), (7, .int a7)] [] S (rz_i K) := by
  refine rz_iconst (v := 0) d_M_opensFile_215 (by decide) ?_
  refine rz_pure (pc' := 218) (l' := [(8, .int 0), (0, .ref 116), (1, .int a1), (2, .int a2), (3, .int a3), (4, .int a4), (5, .int a5), (6, .int a6), (7, .int a7)]) d_M_opensFile_216 rfl ?_
  refine rz_pure (pc' := 220) d_M_opensFile_218 rfl ?_
  refine rz_iconst (v := 1) d_M_opensFile_220 (by decide) ?_
  refine rz_iadd d_M_opensFile_221 ?_
  refine rz_pure (pc' := 223) d_M_opensFile_222 rfl ?_
  refine rz_icmpge (tgt := 283) d_M_opensFile_223 rfl (fun b1 => ?_) (fun b1 => ?_)
  · skip
    exact rz_pick (ks := [0, 1, 2, 3, 4, 5, 6, 7, 8]) (l := [(0, .ref 116), (1, .int a1), (2, .int a2), (3, .int a3), (4, .int a4), (5, .int a5), (6, .int a6), (7, .int a7), (8, .int 0)]) rfl rfl (by decide) rfl (w.1 b1)
  · skip
    refine rz_pure (pc' := 227) d_M_opensFile_226 rfl ?_
    refine rz_getr d_M_opensFile_227 f_12_260 rfl rfl ?_
    refine rz_pure (pc' := 232) d_M_opensFile_230 rfl ?_
    refine rz_ialdv (F := S.1 151) (i := a5.toNatClampNeg) d_M_opensFile_232 rfl (w.2 b1).1 rfl rfl ?_
    refine rz_bipush (v := 44) d_M_opensFile_233 (by decide) ?_
    refine rz_icmpne (tgt := 283) d_M_opensFile_235 rfl (fun b2 => ?_) (fun b2 => ?_)
    · skip
      exact rz_pick (ks := [0, 1, 2, 3, 4, 5, 6, 7, 8]) (l := [(0, .ref 116), (1, .int a1), (2, .int a2), (3, .int a3), (4, .int a4), (5, .int a5), (6, .int a6), (7, .int a7), (8, .int 0)]) rfl rfl (by decide) rfl ((w.2 b1).2.2 b2)
    · skip
      refine rz_pure (pc' := 239) d_M_opensFile_238 rfl ?_
      refine rz_getr d_M_opensFile_239 f_12_260 rfl rfl ?_
      refine rz_pure (pc' := 244) d_M_opensFile_242 rfl ?_
      refine rz_iconst (v := 1) d_M_opensFile_244 (by decide) ?_
      refine rz_iadd d_M_opensFile_245 ?_
      refine rz_ialdv (F := S.1 151) (i := (a5 + 1).toNatClampNeg) d_M_opensFile_246 rfl ((w.2 b1).2.1 b2).1 rfl rfl ?_
      refine rz_bipush (v := 82) d_M_opensFile_247 (by decide) ?_
      refine rz_icmpeq (tgt := 266) d_M_opensFile_249 rfl (fun b3 => ?_) (fun b3 => ?_)
      · skip
        exact rz_pick (ks := [0, 1, 2, 3, 4, 5, 6, 7]) (l := [(0, .ref 116), (1, .int a1), (2, .int a2), (3, .int a3), (4, .int a4), (5, .int a5), (6, .int a6), (7, .int a7)]) rfl rfl (by decide) rfl (((w.2 b1).2.1 b2).2.1 b3)
      · skip
        refine rz_pure (pc' := 253) d_M_opensFile_252 rfl ?_
        refine rz_getr d_M_opensFile_253 f_12_260 rfl rfl ?_
        refine rz_pure (pc' := 258) d_M_opensFile_256 rfl ?_
        refine rz_iconst (v := 1) d_M_opensFile_258 (by decide) ?_
        refine rz_iadd d_M_opensFile_259 ?_
        refine rz_ialdv (F := S.1 151) (i := (a5 + 1).toNatClampNeg) d_M_opensFile_260 rfl ((w.2 b1).2.1 b2).1 rfl rfl ?_
        refine rz_bipush (v := 87) d_M_opensFile_261 (by decide) ?_
        refine rz_icmpne (tgt := 283) d_M_opensFile_263 rfl (fun b4 => ?_) (fun b4 => ?_)
        · skip
          exact rz_pick (ks := [0, 1, 2, 3, 4, 5, 6, 7, 8]) (l := [(0, .ref 116), (1, .int a1), (2, .int a2), (3, .int a3), (4, .int a4), (5, .int a5), (6, .int a6), (7, .int a7), (8, .int 0)]) rfl rfl (by decide) rfl ((((w.2 b1).2.1 b2).2.2 b3).2 b4)
        · skip
          exact rz_pick (ks := [0, 1, 2, 3, 4, 5, 6, 7]) (l := [(0, .ref 116), (1, .int a1), (2, .int a2), (3, .int a3), (4, .int a4), (5, .int a5), (6, .int a6), (7, .int a7)]) rfl rfl (by decide) rfl ((((w.2 b1).2.1 b2).2.2 b3).1 b4)
theorem p_M_opensFile_170 {S : rz_S} {K : Int32 → rz_S → Prop} {a1 : Int32} {a2 : Int32} {a3 : Int32} {a4 : Int32} {a5 : Int32} {a6 : Int32} (w : rx_in (a5 + 1) 401 = true ∧ ((S.1 151 ((a5 + 1).toNatClampNeg) = 83 → rz mM_opensFile 207 [(0, .ref 116), (1, .int a1), (2, .int a2), (3, .int a3), (4, .int a4), (5, .int a5), (6, .int a6)] [.int 1] S (rz_i K)) ∧ (¬ S.1 151 ((a5 + 1).toNatClampNeg) = 83 → ((S.1 151 ((a5 + 1).toNatClampNeg) = 80 → rz mM_opensFile 207 [(0, .ref 116), (1, .int a1), (2, .int a2), (3, .int a3), (4, .int a4), (5, .int a5), (6, .int a6)] [.int 2] S (rz_i K)) ∧ (¬ S.1 151 ((a5 + 1).toNatClampNeg) = 80 → rz mM_opensFile 207 [(0, .ref 116), (1, .int a1), (2, .int a2), (3, .int a3), (4, .int a4), (5, .int a5), (6, .int a6)] [.int 3] S (rz_i K)))))) : rz mM_opensFile 170 [(0, .ref 116), (1, .int a1), (2, .int a2), (3, .int a3), (4, .int a4), (5, .int a5), (6, .int a6)] [] S (rz_i K) := by
  refine rz_pure (pc' := 171) d_M_opensFile_170 rfl ?_
  refine rz_getr d_M_opensFile_171 f_12_260 rfl rfl ?_
  refine rz_pure (pc' := 176) d_M_opensFile_174 rfl ?_
  refine rz_iconst (v := 1) d_M_opensFile_176 (by decide) ?_
  refine rz_iadd d_M_opensFile_177 ?_
  refine rz_ialdv (F := S.1 151) (i := (a5 + 1).toNatClampNeg) d_M_opensFile_178 rfl w.1 rfl rfl ?_
  refine rz_bipush (v := 83) d_M_opensFile_179 (by decide) ?_
  refine rz_icmpne (tgt := 188) d_M_opensFile_181 rfl (fun b1 => ?_) (fun b1 => ?_)
  · skip
    refine rz_pure (pc' := 189) d_M_opensFile_188 rfl ?_
    refine rz_getr d_M_opensFile_189 f_12_260 rfl rfl ?_
    refine rz_pure (pc' := 194) d_M_opensFile_192 rfl ?_
    refine rz_iconst (v := 1) d_M_opensFile_194 (by decide) ?_
    refine rz_iadd d_M_opensFile_195 ?_
    refine rz_ialdv (F := S.1 151) (i := (a5 + 1).toNatClampNeg) d_M_opensFile_196 rfl w.1 rfl rfl ?_
    refine rz_bipush (v := 80) d_M_opensFile_197 (by decide) ?_
    refine rz_icmpne (tgt := 206) d_M_opensFile_199 rfl (fun b2 => ?_) (fun b2 => ?_)
    · skip
      refine rz_iconst (v := 3) d_M_opensFile_206 (by decide) ?_
      exact rz_pick (ks := [0, 1, 2, 3, 4, 5, 6]) (l := [(0, .ref 116), (1, .int a1), (2, .int a2), (3, .int a3), (4, .int a4), (5, .int a5), (6, .int a6)]) rfl rfl (by decide) rfl ((w.2.2 b1).2 b2)
    · skip
      refine rz_iconst (v := 2) d_M_opensFile_202 (by decide) ?_
      refine rz_pure (pc' := 207) d_M_opensFile_203 rfl ?_
      exact rz_pick (ks := [0, 1, 2, 3, 4, 5, 6]) (l := [(0, .ref 116), (1, .int a1), (2, .int a2), (3, .int a3), (4, .int a4), (5, .int a5), (6, .int a6)]) rfl rfl (by decide) rfl ((w.2.2 b1).1 b2)
  · skip
    refine rz_iconst (v := 1) d_M_opensFile_184 (by decide) ?_
    refine rz_pure (pc' := 207) d_M_opensFile_185 rfl ?_
    exact rz_pick (ks := [0, 1, 2, 3, 4, 5, 6]) (l := [(0, .ref 116), (1, .int a1), (2, .int a2), (3, .int a3), (4, .int a4), (5, .int a5), (6, .int a6)]) rfl rfl (by decide) rfl (w.2.1 b1)
theorem p_M_opensFile_283 {S : rz_S} {K : Int32 → rz_S → Prop} {a1 : Int32} {a2 : Int32} {a3 : Int32} {a4 : Int32} {a5 : Int32} {a6 : Int32} {a7 : Int32} {a8 : Int32} (w : ((a2 ≤ a5 → ((a8 = 87 → rz mM_opensFile 315 [(0, .ref 116), (1, .int a1), (3, .int a3), (4, .int a4), (6, .int a6), (7, .int a7)] [] S (rz_i K)) ∧ (¬ a8 = 87 → ((a8 = 0 → ((a1 = 1 → rz mM_opensFile 315 [(0, .ref 116), (1, .int a1), (3, .int a3), (4, .int a4), (6, .int a6), (7, .int a7)] [] S (rz_i K)) ∧ (¬ a1 = 1 → rz mM_opensFile 319 [(0, .ref 116), (1, .int a1), (3, .int a3), (4, .int a4), (6, .int a6), (7, .int a7)] [] S (rz_i K)))) ∧ (¬ a8 = 0 → rz mM_opensFile 319 [(0, .ref 116), (1, .int a1), (3, .int a3), (4, .int a4), (6, .int a6), (7, .int a7)] [] S (rz_i K)))))) ∧ (¬ a2 ≤ a5 → rz_ev mM_fault [.ref 116, .int 30, .int 0, .int 0] S (rz_i (fun xq5 Sq5 => K xq5 Sq5))))) : rz mM_opensFile 283 [(0, .ref 116), (1, .int a1), (2, .int a2), (3, .int a3), (4, .int a4), (5, .int a5), (6, .int a6), (7, .int a7), (8, .int a8)] [] S (rz_i K) := by
  refine rz_pure (pc' := 285) d_M_opensFile_283 rfl ?_
  refine rz_pure (pc' := 286) d_M_opensFile_285 rfl ?_
  refine rz_icmpge (tgt := 298) d_M_opensFile_286 rfl (fun b1 => ?_) (fun b1 => ?_)
  · skip
    refine rz_pure (pc' := 300) d_M_opensFile_298 rfl ?_
    refine rz_bipush (v := 87) d_M_opensFile_300 (by decide) ?_
    refine rz_icmpeq (tgt := 315) d_M_opensFile_302 rfl (fun b2 => ?_) (fun b2 => ?_)
    · skip
      exact rz_pick (ks := [0, 1, 3, 4, 6, 7]) (l := [(0, .ref 116), (1, .int a1), (3, .int a3), (4, .int a4), (6, .int a6), (7, .int a7)]) rfl rfl (by decide) rfl ((w.1 b1).1 b2)
    · skip
      refine rz_pure (pc' := 307) d_M_opensFile_305 rfl ?_
      refine rz_ifne (tgt := 319) d_M_opensFile_307 rfl (fun b3 => ?_) (fun b3 => ?_)
      · skip
        exact rz_pick (ks := [0, 1, 3, 4, 6, 7]) (l := [(0, .ref 116), (1, .int a1), (3, .int a3), (4, .int a4), (6, .int a6), (7, .int a7)]) rfl rfl (by decide) rfl (((w.1 b1).2 b2).2 b3)
      · skip
        refine rz_pure (pc' := 311) d_M_opensFile_310 rfl ?_
        refine rz_iconst (v := 1) d_M_opensFile_311 (by decide) ?_
        refine rz_icmpne (tgt := 319) d_M_opensFile_312 rfl (fun b4 => ?_) (fun b4 => ?_)
        · skip
          exact rz_pick (ks := [0, 1, 3, 4, 6, 7]) (l := [(0, .ref 116), (1, .int a1), (3, .int a3), (4, .int a4), (6, .int a6), (7, .int a7)]) rfl rfl (by decide) rfl ((((w.1 b1).2 b2).1 b3).2 b4)
        · skip
          exact rz_pick (ks := [0, 1, 3, 4, 6, 7]) (l := [(0, .ref 116), (1, .int a1), (3, .int a3), (4, .int a4), (6, .int a6), (7, .int a7)]) rfl rfl (by decide) rfl ((((w.1 b1).2 b2).1 b3).1 b4)
  · skip
    refine rz_pure (pc' := 290) d_M_opensFile_289 rfl ?_
    refine rz_bipush (v := 30) d_M_opensFile_290 (by decide) ?_
    refine rz_iconst (v := 0) d_M_opensFile_292 (by decide) ?_
    refine rz_iconst (v := 0) d_M_opensFile_293 (by decide) ?_
    refine rz_callVi (t := [.int 0, .int 0, .int 30]) d_M_opensFile_294 w_12_113 rfl rfl rfl (w.2 b1) (fun xq5 Sq5 q5 => ?_)
    exact rz_ireti d_M_opensFile_297 rfl rfl q5
theorem p_M_opensFile_266 {S : rz_S} {K : Int32 → rz_S → Prop} {a1 : Int32} {a2 : Int32} {a3 : Int32} {a4 : Int32} {a5 : Int32} {a6 : Int32} {a7 : Int32} (w : rx_in (a5 + 1) 401 = true ∧ rz mM_opensFile 283 [(0, .ref 116), (1, .int a1), (2, .int a2), (3, .int a3), (4, .int a4), (5, .int (a5 + 2)), (6, .int a6), (7, .int a7), (8, .int (S.1 151 ((a5 + 1).toNatClampNeg)))] [] S (rz_i K)) : rz mM_opensFile 266 [(0, .ref 116), (1, .int a1), (2, .int a2), (3, .int a3), (4, .int a4), (5, .int a5), (6, .int a6), (7, .int a7)] [] S (rz_i K) := by
  refine rz_pure (pc' := 267) d_M_opensFile_266 rfl ?_
  refine rz_getr d_M_opensFile_267 f_12_260 rfl rfl ?_
  refine rz_pure (pc' := 272) d_M_opensFile_270 rfl ?_
  refine rz_iconst (v := 1) d_M_opensFile_272 (by decide) ?_
  refine rz_iadd d_M_opensFile_273 ?_
  refine rz_ialdv (F := S.1 151) (i := (a5 + 1).toNatClampNeg) d_M_opensFile_274 rfl w.1 rfl rfl ?_
  refine rz_pure (pc' := 277) (l' := [(8, .int (S.1 151 ((a5 + 1).toNatClampNeg))), (0, .ref 116), (1, .int a1), (2, .int a2), (3, .int a3), (4, .int a4), (5, .int a5), (6, .int a6), (7, .int a7)]) d_M_opensFile_275 rfl ?_
  refine rz_pure (pc' := 279) d_M_opensFile_277 rfl ?_
  refine rz_iconst (v := 2) d_M_opensFile_279 (by decide) ?_
  refine rz_iadd d_M_opensFile_280 ?_
  refine rz_pure (pc' := 283) (l' := [(5, .int (a5 + 2)), (8, .int (S.1 151 ((a5 + 1).toNatClampNeg))), (0, .ref 116), (1, .int a1), (2, .int a2), (3, .int a3), (4, .int a4), (6, .int a6), (7, .int a7)]) d_M_opensFile_281 rfl ?_
  exact rz_pick (ks := [0, 1, 2, 3, 4, 5, 6, 7, 8]) (l := [(0, .ref 116), (1, .int a1), (2, .int a2), (3, .int a3), (4, .int a4), (5, .int (a5 + 2)), (6, .int a6), (7, .int a7), (8, .int (S.1 151 ((a5 + 1).toNatClampNeg)))]) rfl rfl (by decide) rfl w.2
theorem p_M_opensFile_207 {S : rz_S} {K : Int32 → rz_S → Prop} {a1 : Int32} {a2 : Int32} {a3 : Int32} {a4 : Int32} {a5 : Int32} {a6 : Int32} {s0 : Int32} (w : rz mM_opensFile 215 [(0, .ref 116), (1, .int a1), (2, .int a2), (3, .int a3), (4, .int a4), (5, .int (a5 + 2)), (6, .int a6), (7, .int s0)] [] S (rz_i K)) : rz mM_opensFile 207 [(0, .ref 116), (1, .int a1), (2, .int a2), (3, .int a3), (4, .int a4), (5, .int a5), (6, .int a6)] [.int s0] S (rz_i K) := by
  refine rz_pure (pc' := 209) (l' := [(7, .int s0), (0, .ref 116), (1, .int a1), (2, .int a2), (3, .int a3), (4, .int a4), (5, .int a5), (6, .int a6)]) d_M_opensFile_207 rfl ?_
  refine rz_pure (pc' := 211) d_M_opensFile_209 rfl ?_
  refine rz_iconst (v := 2) d_M_opensFile_211 (by decide) ?_
  refine rz_iadd d_M_opensFile_212 ?_
  refine rz_pure (pc' := 215) (l' := [(5, .int (a5 + 2)), (7, .int s0), (0, .ref 116), (1, .int a1), (2, .int a2), (3, .int a3), (4, .int a4), (6, .int a6)]) d_M_opensFile_213 rfl ?_
  exact rz_pick (ks := [0, 1, 2, 3, 4, 5, 6, 7]) (l := [(0, .ref 116), (1, .int a1), (2, .int a2), (3, .int a3), (4, .int a4), (5, .int (a5 + 2)), (6, .int a6), (7, .int s0)]) rfl rfl (by decide) rfl w
theorem p_M_opensFile_315 {S : rz_S} {K : Int32 → rz_S → Prop} {a1 : Int32} {a3 : Int32} {a4 : Int32} {a6 : Int32} {a7 : Int32} (w : rz mM_opensFile 320 [(0, .ref 116), (1, .int a1), (3, .int a3), (4, .int a4), (6, .int a6), (7, .int a7)] [.int 1] S (rz_i K)) : rz mM_opensFile 315 [(0, .ref 116), (1, .int a1), (3, .int a3), (4, .int a4), (6, .int a6), (7, .int a7)] [] S (rz_i K) := by
  refine rz_iconst (v := 1) d_M_opensFile_315 (by decide) ?_
  refine rz_pure (pc' := 320) d_M_opensFile_316 rfl ?_
  exact rz_pick (ks := [0, 1, 3, 4, 6, 7]) (l := [(0, .ref 116), (1, .int a1), (3, .int a3), (4, .int a4), (6, .int a6), (7, .int a7)]) rfl rfl (by decide) rfl w
theorem p_M_opensFile_319 {S : rz_S} {K : Int32 → rz_S → Prop} {a1 : Int32} {a3 : Int32} {a4 : Int32} {a6 : Int32} {a7 : Int32} (w : rz mM_opensFile 320 [(0, .ref 116), (1, .int a1), (3, .int a3), (4, .int a4), (6, .int a6), (7, .int a7)] [.int 0] S (rz_i K)) : rz mM_opensFile 319 [(0, .ref 116), (1, .int a1), (3, .int a3), (4, .int a4), (6, .int a6), (7, .int a7)] [] S (rz_i K) := by
  refine rz_iconst (v := 0) d_M_opensFile_319 (by decide) ?_
  exact rz_pick (ks := [0, 1, 3, 4, 6, 7]) (l := [(0, .ref 116), (1, .int a1), (3, .int a3), (4, .int a4), (6, .int a6), (7, .int a7)]) rfl rfl (by decide) rfl w
theorem p_M_opensFile_320 {S : rz_S} {K : Int32 → rz_S → Prop} {a1 : Int32} {a3 : Int32} {a4 : Int32} {a6 : Int32} {a7 : Int32} {s0 : Int32} (w : ((a7 = 0 → ((2 ≤ a1 → ((s0 = 0 → rz mM_opensFile 346 [(0, .ref 116), (1, .int a1), (3, .int a3), (4, .int a4), (6, .int a6), (9, .int s0)] [.int 0] S (rz_i K)) ∧ (¬ s0 = 0 → rz mM_opensFile 346 [(0, .ref 116), (1, .int a1), (3, .int a3), (4, .int a4), (6, .int a6), (9, .int s0)] [.int 1] S (rz_i K)))) ∧ (¬ 2 ≤ a1 → rz mM_opensFile 346 [(0, .ref 116), (1, .int a1), (3, .int a3), (4, .int a4), (6, .int a6), (9, .int s0)] [.int 2] S (rz_i K)))) ∧ (¬ a7 = 0 → rz mM_opensFile 348 [(0, .ref 116), (1, .int a1), (3, .int a3), (4, .int a4), (6, .int a6), (7, .int a7), (9, .int s0)] [] S (rz_i K)))) : rz mM_opensFile 320 [(0, .ref 116), (1, .int a1), (3, .int a3), (4, .int a4), (6, .int a6), (7, .int a7)] [.int s0] S (rz_i K) := by
  refine rz_pure (pc' := 322) (l' := [(9, .int s0), (0, .ref 116), (1, .int a1), (3, .int a3), (4, .int a4), (6, .int a6), (7, .int a7)]) d_M_opensFile_320 rfl ?_
  refine rz_pure (pc' := 324) d_M_opensFile_322 rfl ?_
  refine rz_ifne (tgt := 348) d_M_opensFile_324 rfl (fun b1 => ?_) (fun b1 => ?_)
  · skip
    exact rz_pick (ks := [0, 1, 3, 4, 6, 7, 9]) (l := [(0, .ref 116), (1, .int a1), (3, .int a3), (4, .int a4), (6, .int a6), (7, .int a7), (9, .int s0)]) rfl rfl (by decide) rfl (w.2 b1)
  · skip
    refine rz_pure (pc' := 328) d_M_opensFile_327 rfl ?_
    refine rz_iconst (v := 2) d_M_opensFile_328 (by decide) ?_
    refine rz_icmpge (tgt := 336) d_M_opensFile_329 rfl (fun b2 => ?_) (fun b2 => ?_)
    · skip
      refine rz_pure (pc' := 338) d_M_opensFile_336 rfl ?_
      refine rz_ifeq (tgt := 345) d_M_opensFile_338 rfl (fun b3 => ?_) (fun b3 => ?_)
      · skip
        refine rz_iconst (v := 0) d_M_opensFile_345 (by decide) ?_
        exact rz_pick (ks := [0, 1, 3, 4, 6, 9]) (l := [(0, .ref 116), (1, .int a1), (3, .int a3), (4, .int a4), (6, .int a6), (9, .int s0)]) rfl rfl (by decide) rfl (((w.1 b1).1 b2).1 b3)
      · skip
        refine rz_iconst (v := 1) d_M_opensFile_341 (by decide) ?_
        refine rz_pure (pc' := 346) d_M_opensFile_342 rfl ?_
        exact rz_pick (ks := [0, 1, 3, 4, 6, 9]) (l := [(0, .ref 116), (1, .int a1), (3, .int a3), (4, .int a4), (6, .int a6), (9, .int s0)]) rfl rfl (by decide) rfl (((w.1 b1).1 b2).2 b3)
    · skip
      refine rz_iconst (v := 2) d_M_opensFile_332 (by decide) ?_
      refine rz_pure (pc' := 346) d_M_opensFile_333 rfl ?_
      exact rz_pick (ks := [0, 1, 3, 4, 6, 9]) (l := [(0, .ref 116), (1, .int a1), (3, .int a3), (4, .int a4), (6, .int a6), (9, .int s0)]) rfl rfl (by decide) rfl ((w.1 b1).2 b2)
theorem p_M_opensFile_348 {S : rz_S} {K : Int32 → rz_S → Prop} {a1 : Int32} {a3 : Int32} {a4 : Int32} {a6 : Int32} {a7 : Int32} {a9 : Int32} (w : ((a4 = 0 → rz mM_opensFile 367 [(0, .ref 116), (1, .int a1), (3, .int a3), (4, .int a4), (6, .int a6), (7, .int a7), (9, .int a9)] [] S (rz_i K)) ∧ (¬ a4 = 0 → ((a9 = 0 → rz_ev mM_fault [.ref 116, .int 30, .int 0, .int 0] S (rz_i (fun xq3 Sq3 => K xq3 Sq3))) ∧ (¬ a9 = 0 → rz mM_opensFile 367 [(0, .ref 116), (1, .int a1), (3, .int a3), (4, .int a4), (6, .int a6), (7, .int a7), (9, .int a9)] [] S (rz_i K)))))) : rz mM_opensFile 348 [(0, .ref 116), (1, .int a1), (3, .int a3), (4, .int a4), (6, .int a6), (7, .int a7), (9, .int a9)] [] S (rz_i K) := by
  refine rz_pure (pc' := 350) d_M_opensFile_348 rfl ?_
  refine rz_ifeq (tgt := 367) d_M_opensFile_350 rfl (fun b1 => ?_) (fun b1 => ?_)
  · skip
    exact rz_pick (ks := [0, 1, 3, 4, 6, 7, 9]) (l := [(0, .ref 116), (1, .int a1), (3, .int a3), (4, .int a4), (6, .int a6), (7, .int a7), (9, .int a9)]) rfl rfl (by decide) rfl (w.1 b1)
  · skip
    refine rz_pure (pc' := 355) d_M_opensFile_353 rfl ?_
    refine rz_ifne (tgt := 367) d_M_opensFile_355 rfl (fun b2 => ?_) (fun b2 => ?_)
    · skip
      exact rz_pick (ks := [0, 1, 3, 4, 6, 7, 9]) (l := [(0, .ref 116), (1, .int a1), (3, .int a3), (4, .int a4), (6, .int a6), (7, .int a7), (9, .int a9)]) rfl rfl (by decide) rfl ((w.2 b1).2 b2)
    · skip
      refine rz_pure (pc' := 359) d_M_opensFile_358 rfl ?_
      refine rz_bipush (v := 30) d_M_opensFile_359 (by decide) ?_
      refine rz_iconst (v := 0) d_M_opensFile_361 (by decide) ?_
      refine rz_iconst (v := 0) d_M_opensFile_362 (by decide) ?_
      refine rz_callVi (t := [.int 0, .int 0, .int 30]) d_M_opensFile_363 w_12_113 rfl rfl rfl ((w.2 b1).1 b2) (fun xq3 Sq3 q3 => ?_)
      exact rz_ireti d_M_opensFile_366 rfl rfl q3
theorem p_M_opensFile_346 {S : rz_S} {K : Int32 → rz_S → Prop} {a1 : Int32} {a3 : Int32} {a4 : Int32} {a6 : Int32} {a9 : Int32} {s0 : Int32} (w : rz mM_opensFile 348 [(0, .ref 116), (1, .int a1), (3, .int a3), (4, .int a4), (6, .int a6), (7, .int s0), (9, .int a9)] [] S (rz_i K)) : rz mM_opensFile 346 [(0, .ref 116), (1, .int a1), (3, .int a3), (4, .int a4), (6, .int a6), (9, .int a9)] [.int s0] S (rz_i K) := by
  refine rz_pure (pc' := 348) (l' := [(7, .int s0), (0, .ref 116), (1, .int a1), (3, .int a3), (4, .int a4), (6, .int a6), (9, .int a9)]) d_M_opensFile_346 rfl ?_
  exact rz_pick (ks := [0, 1, 3, 4, 6, 7, 9]) (l := [(0, .ref 116), (1, .int a1), (3, .int a3), (4, .int a4), (6, .int a6), (7, .int s0), (9, .int a9)]) rfl rfl (by decide) rfl w
theorem p_M_opensFile_367 {S : rz_S} {K : Int32 → rz_S → Prop} {a1 : Int32} {a3 : Int32} {a4 : Int32} {a6 : Int32} {a7 : Int32} {a9 : Int32} (w : ((a9 = 0 → rz_ev mM_opensOld [.ref 116, .int a1, .int a3, .int a6, .int a7] S (rz_i (fun xq2 Sq2 => K xq2 Sq2))) ∧ (¬ a9 = 0 → rz_ev mM_opensNew [.ref 116, .int a1, .int a3, .int a6, .int a7, .int a4] S (rz_i (fun xq3 Sq3 => K xq3 Sq3))))) : rz mM_opensFile 367 [(0, .ref 116), (1, .int a1), (3, .int a3), (4, .int a4), (6, .int a6), (7, .int a7), (9, .int a9)] [] S (rz_i K) := by
  refine rz_pure (pc' := 369) d_M_opensFile_367 rfl ?_
  refine rz_ifeq (tgt := 387) d_M_opensFile_369 rfl (fun b1 => ?_) (fun b1 => ?_)
  · skip
    refine rz_pure (pc' := 388) d_M_opensFile_387 rfl ?_
    refine rz_pure (pc' := 389) d_M_opensFile_388 rfl ?_
    refine rz_pure (pc' := 390) d_M_opensFile_389 rfl ?_
    refine rz_pure (pc' := 392) d_M_opensFile_390 rfl ?_
    refine rz_pure (pc' := 394) d_M_opensFile_392 rfl ?_
    refine rz_callVi (t := [.int a7, .int a6, .int a3, .int a1]) d_M_opensFile_394 w_12_315 rfl rfl rfl (w.1 b1) (fun xq2 Sq2 q2 => ?_)
    exact rz_ireti d_M_opensFile_397 rfl rfl q2
  · skip
    refine rz_pure (pc' := 373) d_M_opensFile_372 rfl ?_
    refine rz_pure (pc' := 374) d_M_opensFile_373 rfl ?_
    refine rz_pure (pc' := 375) d_M_opensFile_374 rfl ?_
    refine rz_pure (pc' := 377) d_M_opensFile_375 rfl ?_
    refine rz_pure (pc' := 379) d_M_opensFile_377 rfl ?_
    refine rz_pure (pc' := 381) d_M_opensFile_379 rfl ?_
    refine rz_callVi (t := [.int a4, .int a7, .int a6, .int a3, .int a1]) d_M_opensFile_381 w_12_311 rfl rfl rfl (w.2 b1) (fun xq3 Sq3 q3 => ?_)
    refine rz_pure (pc' := 397) d_M_opensFile_384 rfl ?_
    exact rz_ireti d_M_opensFile_397 rfl rfl q3
theorem d_M_isWild_0 : decode (rm_code mM_isWild) 0 = .ok (.iconst 0, 1) := by decide +kernel
theorem d_M_isWild_1 : decode (rm_code mM_isWild) 1 = .ok (.istore_n 3, 1) := by decide +kernel
theorem d_M_isWild_2 : decode (rm_code mM_isWild) 2 = .ok (.iload_n 1, 1) := by decide +kernel
theorem d_M_isWild_3 : decode (rm_code mM_isWild) 3 = .ok (.istore 4, 2) := by decide +kernel
theorem d_M_isWild_5 : decode (rm_code mM_isWild) 5 = .ok (.iload 4, 2) := by decide +kernel
theorem d_M_isWild_7 : decode (rm_code mM_isWild) 7 = .ok (.iload_n 1, 1) := by decide +kernel
theorem d_M_isWild_8 : decode (rm_code mM_isWild) 8 = .ok (.iload_n 2, 1) := by decide +kernel
theorem d_M_isWild_9 : decode (rm_code mM_isWild) 9 = .ok (.iadd, 1) := by decide +kernel
theorem d_M_isWild_10 : decode (rm_code mM_isWild) 10 = .ok (.if_icmp .ge (43), 3) := by decide +kernel
theorem d_M_isWild_13 : decode (rm_code mM_isWild) 13 = .ok (.iload_n 3, 1) := by decide +kernel
theorem d_M_isWild_14 : decode (rm_code mM_isWild) 14 = .ok (.ifCond .ne (27), 3) := by decide +kernel
theorem d_M_isWild_17 : decode (rm_code mM_isWild) 17 = .ok (.aload_n 0, 1) := by decide +kernel
theorem d_M_isWild_18 : decode (rm_code mM_isWild) 18 = .ok (.getfield 260, 3) := by decide +kernel
theorem d_M_isWild_21 : decode (rm_code mM_isWild) 21 = .ok (.iload 4, 2) := by decide +kernel
theorem d_M_isWild_23 : decode (rm_code mM_isWild) 23 = .ok (.iaload, 1) := by decide +kernel
theorem d_M_isWild_24 : decode (rm_code mM_isWild) 24 = .ok (.bipush (42), 2) := by decide +kernel
theorem d_M_isWild_26 : decode (rm_code mM_isWild) 26 = .ok (.if_icmp .eq (15), 3) := by decide +kernel
theorem d_M_isWild_29 : decode (rm_code mM_isWild) 29 = .ok (.aload_n 0, 1) := by decide +kernel
theorem d_M_isWild_30 : decode (rm_code mM_isWild) 30 = .ok (.getfield 260, 3) := by decide +kernel
theorem d_M_isWild_33 : decode (rm_code mM_isWild) 33 = .ok (.iload 4, 2) := by decide +kernel
theorem d_M_isWild_35 : decode (rm_code mM_isWild) 35 = .ok (.iaload, 1) := by decide +kernel
theorem d_M_isWild_36 : decode (rm_code mM_isWild) 36 = .ok (.bipush (63), 2) := by decide +kernel
theorem d_M_isWild_38 : decode (rm_code mM_isWild) 38 = .ok (.if_icmp .ne (7), 3) := by decide +kernel
theorem d_M_isWild_41 : decode (rm_code mM_isWild) 41 = .ok (.iconst 1, 1) := by decide +kernel
theorem d_M_isWild_42 : decode (rm_code mM_isWild) 42 = .ok (.goto (4), 3) := by decide +kernel
theorem d_M_isWild_45 : decode (rm_code mM_isWild) 45 = .ok (.iconst 0, 1) := by decide +kernel
theorem d_M_isWild_46 : decode (rm_code mM_isWild) 46 = .ok (.istore_n 3, 1) := by decide +kernel
theorem d_M_isWild_47 : decode (rm_code mM_isWild) 47 = .ok (.iinc 4 (1), 3) := by decide +kernel
theorem d_M_isWild_50 : decode (rm_code mM_isWild) 50 = .ok (.goto (-45), 3) := by decide +kernel
theorem d_M_isWild_53 : decode (rm_code mM_isWild) 53 = .ok (.iload_n 3, 1) := by decide +kernel
theorem d_M_isWild_54 : decode (rm_code mM_isWild) 54 = .ok (.ireturn, 1) := by decide +kernel
theorem p_M_isWild_0 {S : rz_S} {K : Int32 → rz_S → Prop} {a1 : Int32} {a2 : Int32} (w : rz mM_isWild 5 [(0, .ref 116), (1, .int a1), (2, .int a2), (3, .int 0), (4, .int a1)] [] S (rz_i K)) : rz mM_isWild 0 [(0, .ref 116), (1, .int a1), (2, .int a2)] [] S (rz_i K) := by
  refine rz_iconst (v := 0) d_M_isWild_0 (by decide) ?_
  refine rz_pure (pc' := 2) (l' := [(3, .int 0), (0, .ref 116), (1, .int a1), (2, .int a2)]) d_M_isWild_1 rfl ?_
  refine rz_pure (pc' := 3) d_M_isWild_2 rfl ?_
  refine rz_pure (pc' := 5) (l' := [(4, .int a1), (3, .int 0), (0, .ref 116), (1, .int a1), (2, .int a2)]) d_M_isWild_3 rfl ?_
  exact rz_pick (ks := [0, 1, 2, 3, 4]) (l := [(0, .ref 116), (1, .int a1), (2, .int a2), (3, .int 0), (4, .int a1)]) rfl rfl (by decide) rfl w
theorem p_M_isWild_5 {S : rz_S} {K : Int32 → rz_S → Prop} {a1 : Int32} {a2 : Int32} {a3 : Int32} {a4 : Int32} (w : ((a1 + a2 ≤ a4 → (a3 = 0 ∨ a3 = 1) ∧ K a3 S) ∧ (¬ a1 + a2 ≤ a4 → ((a3 = 0 → rx_in a4 401 = true ∧ ((S.1 151 a4.toNatClampNeg = 42 → rz mM_isWild 5 [(0, .ref 116), (1, .int a1), (2, .int a2), (3, .int 1), (4, .int (a4 + 1))] [] S (rz_i K)) ∧ (¬ S.1 151 a4.toNatClampNeg = 42 → ((S.1 151 a4.toNatClampNeg = 63 → rz mM_isWild 5 [(0, .ref 116), (1, .int a1), (2, .int a2), (3, .int 1), (4, .int (a4 + 1))] [] S (rz_i K)) ∧ (¬ S.1 151 a4.toNatClampNeg = 63 → rz mM_isWild 5 [(0, .ref 116), (1, .int a1), (2, .int a2), (3, .int 0), (4, .int (a4 + 1))] [] S (rz_i K)))))) ∧ (¬ a3 = 0 → rz mM_isWild 5 [(0, .ref 116), (1, .int a1), (2, .int a2), (3, .int 1), (4, .int (a4 + 1))] [] S (rz_i K)))))) : rz mM_isWild 5 [(0, .ref 116), (1, .int a1), (2, .int a2), (3, .int a3), (4, .int a4)] [] S (rz_i K) := by
  refine rz_pure (pc' := 7) d_M_isWild_5 rfl ?_
  refine rz_pure (pc' := 8) d_M_isWild_7 rfl ?_
  refine rz_pure (pc' := 9) d_M_isWild_8 rfl ?_
  refine rz_iadd d_M_isWild_9 ?_
  refine rz_icmpge (tgt := 53) d_M_isWild_10 rfl (fun b1 => ?_) (fun b1 => ?_)
  · skip
    refine rz_pure (pc' := 54) d_M_isWild_53 rfl ?_
    exact rz_ireti d_M_isWild_54 rfl (rz_bnok (w.1 b1).1) (w.1 b1).2
  · skip
    refine rz_pure (pc' := 14) d_M_isWild_13 rfl ?_
    refine rz_ifne (tgt := 41) d_M_isWild_14 rfl (fun b2 => ?_) (fun b2 => ?_)
    · skip
      refine rz_iconst (v := 1) d_M_isWild_41 (by decide) ?_
      refine rz_pure (pc' := 46) d_M_isWild_42 rfl ?_
      refine rz_pure (pc' := 47) (l' := [(3, .int 1), (0, .ref 116), (1, .int a1), (2, .int a2), (4, .int a4)]) d_M_isWild_46 rfl ?_
      refine rz_pure (pc' := 50) (l' := [(4, .int (a4 + 1)), (3, .int 1), (0, .ref 116), (1, .int a1), (2, .int a2)]) d_M_isWild_47 rfl ?_
      refine rz_pure (pc' := 5) d_M_isWild_50 rfl ?_
      exact rz_pick (ks := [0, 1, 2, 3, 4]) (l := [(0, .ref 116), (1, .int a1), (2, .int a2), (3, .int 1), (4, .int (a4 + 1))]) rfl rfl (by decide) rfl ((w.2 b1).2 b2)
    · skip
      refine rz_pure (pc' := 18) d_M_isWild_17 rfl ?_
      refine rz_getr d_M_isWild_18 f_12_260 rfl rfl ?_
      refine rz_pure (pc' := 23) d_M_isWild_21 rfl ?_
      refine rz_ialdv (F := S.1 151) (i := a4.toNatClampNeg) d_M_isWild_23 rfl ((w.2 b1).1 b2).1 rfl rfl ?_
      refine rz_bipush (v := 42) d_M_isWild_24 (by decide) ?_
      refine rz_icmpeq (tgt := 41) d_M_isWild_26 rfl (fun b3 => ?_) (fun b3 => ?_)
      · skip
        refine rz_iconst (v := 1) d_M_isWild_41 (by decide) ?_
        refine rz_pure (pc' := 46) d_M_isWild_42 rfl ?_
        refine rz_pure (pc' := 47) (l' := [(3, .int 1), (0, .ref 116), (1, .int a1), (2, .int a2), (4, .int a4)]) d_M_isWild_46 rfl ?_
        refine rz_pure (pc' := 50) (l' := [(4, .int (a4 + 1)), (3, .int 1), (0, .ref 116), (1, .int a1), (2, .int a2)]) d_M_isWild_47 rfl ?_
        refine rz_pure (pc' := 5) d_M_isWild_50 rfl ?_
        exact rz_pick (ks := [0, 1, 2, 3, 4]) (l := [(0, .ref 116), (1, .int a1), (2, .int a2), (3, .int 1), (4, .int (a4 + 1))]) rfl rfl (by decide) rfl (((w.2 b1).1 b2).2.1 b3)
      · skip
        refine rz_pure (pc' := 30) d_M_isWild_29 rfl ?_
        refine rz_getr d_M_isWild_30 f_12_260 rfl rfl ?_
        refine rz_pure (pc' := 35) d_M_isWild_33 rfl ?_
        refine rz_ialdv (F := S.1 151) (i := a4.toNatClampNeg) d_M_isWild_35 rfl ((w.2 b1).1 b2).1 rfl rfl ?_
        refine rz_bipush (v := 63) d_M_isWild_36 (by decide) ?_
        refine rz_icmpne (tgt := 45) d_M_isWild_38 rfl (fun b4 => ?_) (fun b4 => ?_)
        · skip
          refine rz_iconst (v := 0) d_M_isWild_45 (by decide) ?_
          refine rz_pure (pc' := 47) (l' := [(3, .int 0), (0, .ref 116), (1, .int a1), (2, .int a2), (4, .int a4)]) d_M_isWild_46 rfl ?_
          refine rz_pure (pc' := 50) (l' := [(4, .int (a4 + 1)), (3, .int 0), (0, .ref 116), (1, .int a1), (2, .int a2)]) d_M_isWild_47 rfl ?_
          refine rz_pure (pc' := 5) d_M_isWild_50 rfl ?_
          exact rz_pick (ks := [0, 1, 2, 3, 4]) (l := [(0, .ref 116), (1, .int a1), (2, .int a2), (3, .int 0), (4, .int (a4 + 1))]) rfl rfl (by decide) rfl ((((w.2 b1).1 b2).2.2 b3).2 b4)
        · skip
          refine rz_iconst (v := 1) d_M_isWild_41 (by decide) ?_
          refine rz_pure (pc' := 46) d_M_isWild_42 rfl ?_
          refine rz_pure (pc' := 47) (l' := [(3, .int 1), (0, .ref 116), (1, .int a1), (2, .int a2), (4, .int a4)]) d_M_isWild_46 rfl ?_
          refine rz_pure (pc' := 50) (l' := [(4, .int (a4 + 1)), (3, .int 1), (0, .ref 116), (1, .int a1), (2, .int a2)]) d_M_isWild_47 rfl ?_
          refine rz_pure (pc' := 5) d_M_isWild_50 rfl ?_
          exact rz_pick (ks := [0, 1, 2, 3, 4]) (l := [(0, .ref 116), (1, .int a1), (2, .int a2), (3, .int 1), (4, .int (a4 + 1))]) rfl rfl (by decide) rfl ((((w.2 b1).1 b2).2.2 b3).1 b4)
theorem d_M_begun_0 : decode (rm_code mM_begun) 0 = .ok (.bipush (64), 2) := by decide +kernel
theorem d_M_begun_2 : decode (rm_code mM_begun) 2 = .ok (.iload_n 1, 1) := by decide +kernel
theorem d_M_begun_3 : decode (rm_code mM_begun) 3 = .ok (.imul, 1) := by decide +kernel
theorem d_M_begun_4 : decode (rm_code mM_begun) 4 = .ok (.istore_n 2, 1) := by decide +kernel
theorem d_M_begun_5 : decode (rm_code mM_begun) 5 = .ok (.aload_n 0, 1) := by decide +kernel
theorem d_M_begun_6 : decode (rm_code mM_begun) 6 = .ok (.getfield 318, 3) := by decide +kernel
theorem d_M_begun_9 : decode (rm_code mM_begun) 9 = .ok (.iload_n 1, 1) := by decide +kernel
theorem d_M_begun_10 : decode (rm_code mM_begun) 10 = .ok (.aload_n 0, 1) := by decide +kernel
theorem d_M_begun_11 : decode (rm_code mM_begun) 11 = .ok (.getfield 284, 3) := by decide +kernel
theorem d_M_begun_14 : decode (rm_code mM_begun) 14 = .ok (.iload_n 2, 1) := by decide +kernel
theorem d_M_begun_15 : decode (rm_code mM_begun) 15 = .ok (.iaload, 1) := by decide +kernel
theorem d_M_begun_16 : decode (rm_code mM_begun) 16 = .ok (.ifCond .ne (7), 3) := by decide +kernel
theorem d_M_begun_19 : decode (rm_code mM_begun) 19 = .ok (.iconst 1, 1) := by decide +kernel
theorem d_M_begun_20 : decode (rm_code mM_begun) 20 = .ok (.goto (4), 3) := by decide +kernel
theorem d_M_begun_23 : decode (rm_code mM_begun) 23 = .ok (.iconst 0, 1) := by decide +kernel
theorem d_M_begun_24 : decode (rm_code mM_begun) 24 = .ok (.bastore, 1) := by decide +kernel
theorem d_M_begun_25 : decode (rm_code mM_begun) 25 = .ok (.aload_n 0, 1) := by decide +kernel
theorem d_M_begun_26 : decode (rm_code mM_begun) 26 = .ok (.getfield 284, 3) := by decide +kernel
theorem d_M_begun_29 : decode (rm_code mM_begun) 29 = .ok (.iload_n 2, 1) := by decide +kernel
theorem d_M_begun_30 : decode (rm_code mM_begun) 30 = .ok (.iconst 1, 1) := by decide +kernel
theorem d_M_begun_31 : decode (rm_code mM_begun) 31 = .ok (.iadd, 1) := by decide +kernel
theorem d_M_begun_32 : decode (rm_code mM_begun) 32 = .ok (.iaload, 1) := by decide +kernel
theorem d_M_begun_33 : decode (rm_code mM_begun) 33 = .ok (.iconst 2, 1) := by decide +kernel
theorem d_M_begun_34 : decode (rm_code mM_begun) 34 = .ok (.if_icmp .ge (7), 3) := by decide +kernel
theorem d_M_begun_37 : decode (rm_code mM_begun) 37 = .ok (.iconst 1, 1) := by decide +kernel
theorem d_M_begun_38 : decode (rm_code mM_begun) 38 = .ok (.goto (29), 3) := by decide +kernel
theorem d_M_begun_41 : decode (rm_code mM_begun) 41 = .ok (.aload_n 0, 1) := by decide +kernel
theorem d_M_begun_42 : decode (rm_code mM_begun) 42 = .ok (.getfield 284, 3) := by decide +kernel
theorem d_M_begun_45 : decode (rm_code mM_begun) 45 = .ok (.iload_n 2, 1) := by decide +kernel
theorem d_M_begun_46 : decode (rm_code mM_begun) 46 = .ok (.iconst 1, 1) := by decide +kernel
theorem d_M_begun_47 : decode (rm_code mM_begun) 47 = .ok (.iadd, 1) := by decide +kernel
theorem d_M_begun_48 : decode (rm_code mM_begun) 48 = .ok (.iaload, 1) := by decide +kernel
theorem d_M_begun_49 : decode (rm_code mM_begun) 49 = .ok (.bipush (63), 2) := by decide +kernel
theorem d_M_begun_51 : decode (rm_code mM_begun) 51 = .ok (.if_icmp .le (8), 3) := by decide +kernel
theorem d_M_begun_54 : decode (rm_code mM_begun) 54 = .ok (.bipush (63), 2) := by decide +kernel
theorem d_M_begun_56 : decode (rm_code mM_begun) 56 = .ok (.goto (11), 3) := by decide +kernel
theorem d_M_begun_59 : decode (rm_code mM_begun) 59 = .ok (.aload_n 0, 1) := by decide +kernel
theorem d_M_begun_60 : decode (rm_code mM_begun) 60 = .ok (.getfield 284, 3) := by decide +kernel
theorem d_M_begun_63 : decode (rm_code mM_begun) 63 = .ok (.iload_n 2, 1) := by decide +kernel
theorem d_M_begun_64 : decode (rm_code mM_begun) 64 = .ok (.iconst 1, 1) := by decide +kernel
theorem d_M_begun_65 : decode (rm_code mM_begun) 65 = .ok (.iadd, 1) := by decide +kernel
theorem d_M_begun_66 : decode (rm_code mM_begun) 66 = .ok (.iaload, 1) := by decide +kernel
theorem d_M_begun_67 : decode (rm_code mM_begun) 67 = .ok (.istore_n 3, 1) := by decide +kernel
theorem d_M_begun_68 : decode (rm_code mM_begun) 68 = .ok (.aload_n 0, 1) := by decide +kernel
theorem d_M_begun_69 : decode (rm_code mM_begun) 69 = .ok (.getfield 322, 3) := by decide +kernel
theorem d_M_begun_72 : decode (rm_code mM_begun) 72 = .ok (.iload_n 1, 1) := by decide +kernel
theorem d_M_begun_73 : decode (rm_code mM_begun) 73 = .ok (.aload_n 0, 1) := by decide +kernel
theorem d_M_begun_74 : decode (rm_code mM_begun) 74 = .ok (.getfield 318, 3) := by decide +kernel
theorem d_M_begun_77 : decode (rm_code mM_begun) 77 = .ok (.iload_n 1, 1) := by decide +kernel
theorem d_M_begun_78 : decode (rm_code mM_begun) 78 = .ok (.baload, 1) := by decide +kernel
theorem d_M_begun_79 : decode (rm_code mM_begun) 79 = .ok (.ifCond .eq (7), 3) := by decide +kernel
theorem d_M_begun_82 : decode (rm_code mM_begun) 82 = .ok (.iload_n 3, 1) := by decide +kernel
theorem d_M_begun_83 : decode (rm_code mM_begun) 83 = .ok (.goto (5), 3) := by decide +kernel
theorem d_M_begun_86 : decode (rm_code mM_begun) 86 = .ok (.bipush (63), 2) := by decide +kernel
theorem d_M_begun_88 : decode (rm_code mM_begun) 88 = .ok (.iastore, 1) := by decide +kernel
theorem d_M_begun_89 : decode (rm_code mM_begun) 89 = .ok (.aload_n 0, 1) := by decide +kernel
theorem d_M_begun_90 : decode (rm_code mM_begun) 90 = .ok (.getfield 287, 3) := by decide +kernel
theorem d_M_begun_93 : decode (rm_code mM_begun) 93 = .ok (.iload_n 1, 1) := by decide +kernel
theorem d_M_begun_94 : decode (rm_code mM_begun) 94 = .ok (.iconst 2, 1) := by decide +kernel
theorem d_M_begun_95 : decode (rm_code mM_begun) 95 = .ok (.iastore, 1) := by decide +kernel
theorem d_M_begun_96 : decode (rm_code mM_begun) 96 = .ok (.return_, 1) := by decide +kernel
theorem p_M_begun_0 {S : rz_S} {K : rz_S → Prop} {a1 : Int32} (w : rx_in (64 * a1) 960 = true ∧ ((S.1 127 ((64 * a1).toNatClampNeg) = 0 → rz mM_begun 24 [(0, .ref 116), (1, .int a1), (2, .int (64 * a1))] [.int 1, .int a1, .ref 130] S (rz_v K)) ∧ (¬ S.1 127 ((64 * a1).toNatClampNeg) = 0 → rz mM_begun 24 [(0, .ref 116), (1, .int a1), (2, .int (64 * a1))] [.int 0, .int a1, .ref 130] S (rz_v K)))) : rz mM_begun 0 [(0, .ref 116), (1, .int a1)] [] S (rz_v K) := by
  refine rz_bipush (v := 64) d_M_begun_0 (by decide) ?_
  refine rz_pure (pc' := 3) d_M_begun_2 rfl ?_
  refine rz_imul d_M_begun_3 ?_
  refine rz_pure (pc' := 5) (l' := [(2, .int (64 * a1)), (0, .ref 116), (1, .int a1)]) d_M_begun_4 rfl ?_
  refine rz_pure (pc' := 6) d_M_begun_5 rfl ?_
  refine rz_getr d_M_begun_6 f_12_318 rfl rfl ?_
  refine rz_pure (pc' := 10) d_M_begun_9 rfl ?_
  refine rz_pure (pc' := 11) d_M_begun_10 rfl ?_
  refine rz_getr d_M_begun_11 f_12_284 rfl rfl ?_
  refine rz_pure (pc' := 15) d_M_begun_14 rfl ?_
  refine rz_ialdv (F := S.1 127) (i := (64 * a1).toNatClampNeg) d_M_begun_15 rfl w.1 rfl rfl ?_
  refine rz_ifne (tgt := 23) d_M_begun_16 rfl (fun b1 => ?_) (fun b1 => ?_)
  · skip
    refine rz_iconst (v := 0) d_M_begun_23 (by decide) ?_
    exact rz_pick (ks := [0, 1, 2]) (l := [(0, .ref 116), (1, .int a1), (2, .int (64 * a1))]) rfl rfl (by decide) rfl (w.2.2 b1)
  · skip
    refine rz_iconst (v := 1) d_M_begun_19 (by decide) ?_
    refine rz_pure (pc' := 24) d_M_begun_20 rfl ?_
    exact rz_pick (ks := [0, 1, 2]) (l := [(0, .ref 116), (1, .int a1), (2, .int (64 * a1))]) rfl rfl (by decide) rfl (w.2.1 b1)
theorem p_M_begun_24 {S : rz_S} {K : rz_S → Prop} {a1 : Int32} {a2 : Int32} {s0 : Int32} {s1 : Int32} (w : rx_in s1 15 = true ∧ rx_in (a2 + 1) 960 = true ∧ ((2 ≤ S.1 127 ((a2 + 1).toNatClampNeg) → ((S.1 127 ((a2 + 1).toNatClampNeg) ≤ 63 → rz mM_begun 67 [(0, .ref 116), (1, .int a1)] [.int (S.1 127 ((a2 + 1).toNatClampNeg))] (rz_fA S 130 (upd (S.1 130) s1.toNatClampNeg (vp_nar .boolean s0))) (rz_v K)) ∧ (¬ S.1 127 ((a2 + 1).toNatClampNeg) ≤ 63 → rz mM_begun 67 [(0, .ref 116), (1, .int a1)] [.int 63] (rz_fA S 130 (upd (S.1 130) s1.toNatClampNeg (vp_nar .boolean s0))) (rz_v K)))) ∧ (¬ 2 ≤ S.1 127 ((a2 + 1).toNatClampNeg) → rz mM_begun 67 [(0, .ref 116), (1, .int a1)] [.int 1] (rz_fA S 130 (upd (S.1 130) s1.toNatClampNeg (vp_nar .boolean s0))) (rz_v K)))) : rz mM_begun 24 [(0, .ref 116), (1, .int a1), (2, .int a2)] [.int s0, .int s1, .ref 130] S (rz_v K) := by
  refine rz_zastv (F := S.1 130) (i := s1.toNatClampNeg) d_M_begun_24 rfl w.1 rfl rfl ?_
  refine rz_pure (pc' := 26) d_M_begun_25 rfl ?_
  refine rz_getr d_M_begun_26 f_12_284 rfl rfl ?_
  refine rz_pure (pc' := 30) d_M_begun_29 rfl ?_
  refine rz_iconst (v := 1) d_M_begun_30 (by decide) ?_
  refine rz_iadd d_M_begun_31 ?_
  refine rz_ialdv (F := S.1 127) (i := (a2 + 1).toNatClampNeg) d_M_begun_32 rfl w.2.1 ((rz_fA_n (by omega)).trans rfl) rfl ?_
  refine rz_iconst (v := 2) d_M_begun_33 (by decide) ?_
  refine rz_icmpge (tgt := 41) d_M_begun_34 rfl (fun b1 => ?_) (fun b1 => ?_)
  · skip
    refine rz_pure (pc' := 42) d_M_begun_41 rfl ?_
    refine rz_getr d_M_begun_42 f_12_284 rfl rfl ?_
    refine rz_pure (pc' := 46) d_M_begun_45 rfl ?_
    refine rz_iconst (v := 1) d_M_begun_46 (by decide) ?_
    refine rz_iadd d_M_begun_47 ?_
    refine rz_ialdv (F := S.1 127) (i := (a2 + 1).toNatClampNeg) d_M_begun_48 rfl w.2.1 ((rz_fA_n (by omega)).trans rfl) rfl ?_
    refine rz_bipush (v := 63) d_M_begun_49 (by decide) ?_
    refine rz_icmple (tgt := 59) d_M_begun_51 rfl (fun b2 => ?_) (fun b2 => ?_)
    · skip
      refine rz_pure (pc' := 60) d_M_begun_59 rfl ?_
      refine rz_getr d_M_begun_60 f_12_284 rfl rfl ?_
      refine rz_pure (pc' := 64) d_M_begun_63 rfl ?_
      refine rz_iconst (v := 1) d_M_begun_64 (by decide) ?_
      refine rz_iadd d_M_begun_65 ?_
      refine rz_ialdv (F := S.1 127) (i := (a2 + 1).toNatClampNeg) d_M_begun_66 rfl w.2.1 ((rz_fA_n (by omega)).trans rfl) rfl ?_
      exact rz_pick (ks := [0, 1]) (l := [(0, .ref 116), (1, .int a1)]) rfl rfl (by decide) rfl ((w.2.2.1 b1).1 b2)
    · skip
      refine rz_bipush (v := 63) d_M_begun_54 (by decide) ?_
      refine rz_pure (pc' := 67) d_M_begun_56 rfl ?_
      exact rz_pick (ks := [0, 1]) (l := [(0, .ref 116), (1, .int a1)]) rfl rfl (by decide) rfl ((w.2.2.1 b1).2 b2)
  · skip
    refine rz_iconst (v := 1) d_M_begun_37 (by decide) ?_
    refine rz_pure (pc' := 67) d_M_begun_38 rfl ?_
    exact rz_pick (ks := [0, 1]) (l := [(0, .ref 116), (1, .int a1)]) rfl rfl (by decide) rfl (w.2.2.2 b1)
theorem p_M_begun_67 {S : rz_S} {K : rz_S → Prop} {a1 : Int32} {s0 : Int32} (w : rx_in a1 15 = true ∧ ((S.1 130 a1.toNatClampNeg = 0 → K (rz_fA (rz_fA S 129 (upd (S.1 129) a1.toNatClampNeg 63)) 128 (upd (S.1 128) a1.toNatClampNeg 2))) ∧ (¬ S.1 130 a1.toNatClampNeg = 0 → K (rz_fA (rz_fA S 129 (upd (S.1 129) a1.toNatClampNeg s0)) 128 (upd (S.1 128) a1.toNatClampNeg 2))))) : rz mM_begun 67 [(0, .ref 116), (1, .int a1)] [.int s0] S (rz_v K) := by
  refine rz_pure (pc' := 68) (l' := [(3, .int s0), (0, .ref 116), (1, .int a1)]) d_M_begun_67 rfl ?_
  refine rz_pure (pc' := 69) d_M_begun_68 rfl ?_
  refine rz_getr d_M_begun_69 f_12_322 rfl rfl ?_
  refine rz_pure (pc' := 73) d_M_begun_72 rfl ?_
  refine rz_pure (pc' := 74) d_M_begun_73 rfl ?_
  refine rz_getr d_M_begun_74 f_12_318 rfl rfl ?_
  refine rz_pure (pc' := 78) d_M_begun_77 rfl ?_
  refine rz_baldv (F := S.1 130) (i := a1.toNatClampNeg) d_M_begun_78 rfl (by decide) w.1 rfl rfl ?_
  refine rz_ifeq (tgt := 86) d_M_begun_79 rfl (fun b1 => ?_) (fun b1 => ?_)
  · skip
    refine rz_bipush (v := 63) d_M_begun_86 (by decide) ?_
    refine rz_iastv (F := S.1 129) (i := a1.toNatClampNeg) d_M_begun_88 rfl w.1 rfl rfl ?_
    refine rz_pure (pc' := 90) d_M_begun_89 rfl ?_
    refine rz_getr d_M_begun_90 f_12_287 rfl rfl ?_
    refine rz_pure (pc' := 94) d_M_begun_93 rfl ?_
    refine rz_iconst (v := 2) d_M_begun_94 (by decide) ?_
    refine rz_iastv (F := S.1 128) (i := a1.toNatClampNeg) d_M_begun_95 rfl w.1 ((rz_fA_n (by omega)).trans rfl) rfl ?_
    exact rz_vretv d_M_begun_96 rfl (w.2.1 b1)
  · skip
    refine rz_pure (pc' := 83) d_M_begun_82 rfl ?_
    refine rz_pure (pc' := 88) d_M_begun_83 rfl ?_
    refine rz_iastv (F := S.1 129) (i := a1.toNatClampNeg) d_M_begun_88 rfl w.1 rfl rfl ?_
    refine rz_pure (pc' := 90) d_M_begun_89 rfl ?_
    refine rz_getr d_M_begun_90 f_12_287 rfl rfl ?_
    refine rz_pure (pc' := 94) d_M_begun_93 rfl ?_
    refine rz_iconst (v := 2) d_M_begun_94 (by decide) ?_
    refine rz_iastv (F := S.1 128) (i := a1.toNatClampNeg) d_M_begun_95 rfl w.1 ((rz_fA_n (by omega)).trans rfl) rfl ?_
    exact rz_vretv d_M_begun_96 rfl (w.2.2 b1)
theorem d_M_opensOld_0 : decode (rm_code mM_opensOld) 0 = .ok (.aload_n 0, 1) := by decide +kernel
theorem d_M_opensOld_1 : decode (rm_code mM_opensOld) 1 = .ok (.iconst 0, 1) := by decide +kernel
theorem d_M_opensOld_2 : decode (rm_code mM_opensOld) 2 = .ok (.aload_n 0, 1) := by decide +kernel
theorem d_M_opensOld_3 : decode (rm_code mM_opensOld) 3 = .ok (.getfield 260, 3) := by decide +kernel
theorem d_M_opensOld_6 : decode (rm_code mM_opensOld) 6 = .ok (.iload_n 2, 1) := by decide +kernel
theorem d_M_opensOld_7 : decode (rm_code mM_opensOld) 7 = .ok (.iload_n 3, 1) := by decide +kernel
theorem d_M_opensOld_8 : decode (rm_code mM_opensOld) 8 = .ok (.invokevirtual 325, 3) := by decide +kernel
theorem d_M_opensOld_11 : decode (rm_code mM_opensOld) 11 = .ok (.istore 5, 2) := by decide +kernel
theorem d_M_opensOld_13 : decode (rm_code mM_opensOld) 13 = .ok (.iload 5, 2) := by decide +kernel
theorem d_M_opensOld_15 : decode (rm_code mM_opensOld) 15 = .ok (.iconst (-1), 1) := by decide +kernel
theorem d_M_opensOld_16 : decode (rm_code mM_opensOld) 16 = .ok (.if_icmp .ne (12), 3) := by decide +kernel
theorem d_M_opensOld_19 : decode (rm_code mM_opensOld) 19 = .ok (.aload_n 0, 1) := by decide +kernel
theorem d_M_opensOld_20 : decode (rm_code mM_opensOld) 20 = .ok (.bipush (62), 2) := by decide +kernel
theorem d_M_opensOld_22 : decode (rm_code mM_opensOld) 22 = .ok (.iconst 0, 1) := by decide +kernel
theorem d_M_opensOld_23 : decode (rm_code mM_opensOld) 23 = .ok (.iconst 0, 1) := by decide +kernel
theorem d_M_opensOld_24 : decode (rm_code mM_opensOld) 24 = .ok (.invokevirtual 113, 3) := by decide +kernel
theorem d_M_opensOld_27 : decode (rm_code mM_opensOld) 27 = .ok (.ireturn, 1) := by decide +kernel
theorem d_M_opensOld_28 : decode (rm_code mM_opensOld) 28 = .ok (.iload 5, 2) := by decide +kernel
theorem d_M_opensOld_30 : decode (rm_code mM_opensOld) 30 = .ok (.ifCond .eq (6), 3) := by decide +kernel
theorem d_M_opensOld_33 : decode (rm_code mM_opensOld) 33 = .ok (.iload 5, 2) := by decide +kernel
theorem d_M_opensOld_35 : decode (rm_code mM_opensOld) 35 = .ok (.ireturn, 1) := by decide +kernel
theorem d_M_opensOld_36 : decode (rm_code mM_opensOld) 36 = .ok (.bipush (16), 2) := by decide +kernel
theorem d_M_opensOld_38 : decode (rm_code mM_opensOld) 38 = .ok (.aload_n 0, 1) := by decide +kernel
theorem d_M_opensOld_39 : decode (rm_code mM_opensOld) 39 = .ok (.getfield 217, 3) := by decide +kernel
theorem d_M_opensOld_42 : decode (rm_code mM_opensOld) 42 = .ok (.imul, 1) := by decide +kernel
theorem d_M_opensOld_43 : decode (rm_code mM_opensOld) 43 = .ok (.istore 6, 2) := by decide +kernel
theorem d_M_opensOld_45 : decode (rm_code mM_opensOld) 45 = .ok (.aload_n 0, 1) := by decide +kernel
theorem d_M_opensOld_46 : decode (rm_code mM_opensOld) 46 = .ok (.getfield 195, 3) := by decide +kernel
theorem d_M_opensOld_49 : decode (rm_code mM_opensOld) 49 = .ok (.iload 6, 2) := by decide +kernel
theorem d_M_opensOld_51 : decode (rm_code mM_opensOld) 51 = .ok (.iconst 2, 1) := by decide +kernel
theorem d_M_opensOld_52 : decode (rm_code mM_opensOld) 52 = .ok (.iadd, 1) := by decide +kernel
theorem d_M_opensOld_53 : decode (rm_code mM_opensOld) 53 = .ok (.iaload, 1) := by decide +kernel
theorem d_M_opensOld_54 : decode (rm_code mM_opensOld) 54 = .ok (.sipush (128), 3) := by decide +kernel
theorem d_M_opensOld_57 : decode (rm_code mM_opensOld) 57 = .ok (.if_icmp .ge (12), 3) := by decide +kernel
theorem d_M_opensOld_60 : decode (rm_code mM_opensOld) 60 = .ok (.aload_n 0, 1) := by decide +kernel
theorem d_M_opensOld_61 : decode (rm_code mM_opensOld) 61 = .ok (.bipush (60), 2) := by decide +kernel
theorem d_M_opensOld_63 : decode (rm_code mM_opensOld) 63 = .ok (.iconst 0, 1) := by decide +kernel
theorem d_M_opensOld_64 : decode (rm_code mM_opensOld) 64 = .ok (.iconst 0, 1) := by decide +kernel
theorem d_M_opensOld_65 : decode (rm_code mM_opensOld) 65 = .ok (.invokevirtual 113, 3) := by decide +kernel
theorem d_M_opensOld_68 : decode (rm_code mM_opensOld) 68 = .ok (.ireturn, 1) := by decide +kernel
theorem d_M_opensOld_69 : decode (rm_code mM_opensOld) 69 = .ok (.iload 4, 2) := by decide +kernel
theorem d_M_opensOld_71 : decode (rm_code mM_opensOld) 71 = .ok (.ifCond .eq (28), 3) := by decide +kernel
theorem d_M_opensOld_74 : decode (rm_code mM_opensOld) 74 = .ok (.aload_n 0, 1) := by decide +kernel
theorem d_M_opensOld_75 : decode (rm_code mM_opensOld) 75 = .ok (.getfield 195, 3) := by decide +kernel
theorem d_M_opensOld_78 : decode (rm_code mM_opensOld) 78 = .ok (.iload 6, 2) := by decide +kernel
theorem d_M_opensOld_80 : decode (rm_code mM_opensOld) 80 = .ok (.iconst 2, 1) := by decide +kernel
theorem d_M_opensOld_81 : decode (rm_code mM_opensOld) 81 = .ok (.iadd, 1) := by decide +kernel
theorem d_M_opensOld_82 : decode (rm_code mM_opensOld) 82 = .ok (.iaload, 1) := by decide +kernel
theorem d_M_opensOld_83 : decode (rm_code mM_opensOld) 83 = .ok (.iconst 3, 1) := by decide +kernel
theorem d_M_opensOld_84 : decode (rm_code mM_opensOld) 84 = .ok (.iand, 1) := by decide +kernel
theorem d_M_opensOld_85 : decode (rm_code mM_opensOld) 85 = .ok (.iload 4, 2) := by decide +kernel
theorem d_M_opensOld_87 : decode (rm_code mM_opensOld) 87 = .ok (.if_icmp .eq (12), 3) := by decide +kernel
theorem d_M_opensOld_90 : decode (rm_code mM_opensOld) 90 = .ok (.aload_n 0, 1) := by decide +kernel
theorem d_M_opensOld_91 : decode (rm_code mM_opensOld) 91 = .ok (.bipush (64), 2) := by decide +kernel
theorem d_M_opensOld_93 : decode (rm_code mM_opensOld) 93 = .ok (.iconst 0, 1) := by decide +kernel
theorem d_M_opensOld_94 : decode (rm_code mM_opensOld) 94 = .ok (.iconst 0, 1) := by decide +kernel
theorem d_M_opensOld_95 : decode (rm_code mM_opensOld) 95 = .ok (.invokevirtual 113, 3) := by decide +kernel
theorem d_M_opensOld_98 : decode (rm_code mM_opensOld) 98 = .ok (.ireturn, 1) := by decide +kernel
theorem d_M_opensOld_99 : decode (rm_code mM_opensOld) 99 = .ok (.aload_n 0, 1) := by decide +kernel
theorem d_M_opensOld_100 : decode (rm_code mM_opensOld) 100 = .ok (.getfield 195, 3) := by decide +kernel
theorem d_M_opensOld_103 : decode (rm_code mM_opensOld) 103 = .ok (.iload 6, 2) := by decide +kernel
theorem d_M_opensOld_105 : decode (rm_code mM_opensOld) 105 = .ok (.iconst 3, 1) := by decide +kernel
theorem d_M_opensOld_106 : decode (rm_code mM_opensOld) 106 = .ok (.iadd, 1) := by decide +kernel
theorem d_M_opensOld_107 : decode (rm_code mM_opensOld) 107 = .ok (.iaload, 1) := by decide +kernel
theorem d_M_opensOld_108 : decode (rm_code mM_opensOld) 108 = .ok (.istore 7, 2) := by decide +kernel
theorem d_M_opensOld_110 : decode (rm_code mM_opensOld) 110 = .ok (.aload_n 0, 1) := by decide +kernel
theorem d_M_opensOld_111 : decode (rm_code mM_opensOld) 111 = .ok (.getfield 195, 3) := by decide +kernel
theorem d_M_opensOld_114 : decode (rm_code mM_opensOld) 114 = .ok (.iload 6, 2) := by decide +kernel
theorem d_M_opensOld_116 : decode (rm_code mM_opensOld) 116 = .ok (.iconst 4, 1) := by decide +kernel
theorem d_M_opensOld_117 : decode (rm_code mM_opensOld) 117 = .ok (.iadd, 1) := by decide +kernel
theorem d_M_opensOld_118 : decode (rm_code mM_opensOld) 118 = .ok (.iaload, 1) := by decide +kernel
theorem d_M_opensOld_119 : decode (rm_code mM_opensOld) 119 = .ok (.istore 8, 2) := by decide +kernel
theorem d_M_opensOld_121 : decode (rm_code mM_opensOld) 121 = .ok (.iload 7, 2) := by decide +kernel
theorem d_M_opensOld_123 : decode (rm_code mM_opensOld) 123 = .ok (.iload 8, 2) := by decide +kernel
theorem d_M_opensOld_125 : decode (rm_code mM_opensOld) 125 = .ok (.invokestatic 161, 3) := by decide +kernel
theorem d_M_opensOld_128 : decode (rm_code mM_opensOld) 128 = .ok (.ifCond .ne (14), 3) := by decide +kernel
theorem d_M_opensOld_131 : decode (rm_code mM_opensOld) 131 = .ok (.aload_n 0, 1) := by decide +kernel
theorem d_M_opensOld_132 : decode (rm_code mM_opensOld) 132 = .ok (.bipush (66), 2) := by decide +kernel
theorem d_M_opensOld_134 : decode (rm_code mM_opensOld) 134 = .ok (.iload 7, 2) := by decide +kernel
theorem d_M_opensOld_136 : decode (rm_code mM_opensOld) 136 = .ok (.iload 8, 2) := by decide +kernel
theorem d_M_opensOld_138 : decode (rm_code mM_opensOld) 138 = .ok (.invokevirtual 113, 3) := by decide +kernel
theorem d_M_opensOld_141 : decode (rm_code mM_opensOld) 141 = .ok (.ireturn, 1) := by decide +kernel
theorem d_M_opensOld_142 : decode (rm_code mM_opensOld) 142 = .ok (.aload_n 0, 1) := by decide +kernel
theorem d_M_opensOld_143 : decode (rm_code mM_opensOld) 143 = .ok (.iload 7, 2) := by decide +kernel
theorem d_M_opensOld_145 : decode (rm_code mM_opensOld) 145 = .ok (.iload 8, 2) := by decide +kernel
theorem d_M_opensOld_147 : decode (rm_code mM_opensOld) 147 = .ok (.aload_n 0, 1) := by decide +kernel
theorem d_M_opensOld_148 : decode (rm_code mM_opensOld) 148 = .ok (.getfield 284, 3) := by decide +kernel
theorem d_M_opensOld_151 : decode (rm_code mM_opensOld) 151 = .ok (.bipush (64), 2) := by decide +kernel
theorem d_M_opensOld_153 : decode (rm_code mM_opensOld) 153 = .ok (.iload_n 1, 1) := by decide +kernel
theorem d_M_opensOld_154 : decode (rm_code mM_opensOld) 154 = .ok (.imul, 1) := by decide +kernel
theorem d_M_opensOld_155 : decode (rm_code mM_opensOld) 155 = .ok (.invokevirtual 148, 3) := by decide +kernel
theorem d_M_opensOld_158 : decode (rm_code mM_opensOld) 158 = .ok (.istore 5, 2) := by decide +kernel
theorem d_M_opensOld_160 : decode (rm_code mM_opensOld) 160 = .ok (.iload 5, 2) := by decide +kernel
theorem d_M_opensOld_162 : decode (rm_code mM_opensOld) 162 = .ok (.ifCond .eq (6), 3) := by decide +kernel
theorem d_M_opensOld_165 : decode (rm_code mM_opensOld) 165 = .ok (.iload 5, 2) := by decide +kernel
theorem d_M_opensOld_167 : decode (rm_code mM_opensOld) 167 = .ok (.ireturn, 1) := by decide +kernel
theorem d_M_opensOld_168 : decode (rm_code mM_opensOld) 168 = .ok (.aload_n 0, 1) := by decide +kernel
theorem d_M_opensOld_169 : decode (rm_code mM_opensOld) 169 = .ok (.iload_n 1, 1) := by decide +kernel
theorem d_M_opensOld_170 : decode (rm_code mM_opensOld) 170 = .ok (.invokevirtual 329, 3) := by decide +kernel
theorem d_M_opensOld_173 : decode (rm_code mM_opensOld) 173 = .ok (.aload_n 0, 1) := by decide +kernel
theorem d_M_opensOld_174 : decode (rm_code mM_opensOld) 174 = .ok (.getfield 248, 3) := by decide +kernel
theorem d_M_opensOld_177 : decode (rm_code mM_opensOld) 177 = .ok (.iload_n 1, 1) := by decide +kernel
theorem d_M_opensOld_178 : decode (rm_code mM_opensOld) 178 = .ok (.iconst 1, 1) := by decide +kernel
theorem d_M_opensOld_179 : decode (rm_code mM_opensOld) 179 = .ok (.iastore, 1) := by decide +kernel
theorem d_M_opensOld_180 : decode (rm_code mM_opensOld) 180 = .ok (.iconst 0, 1) := by decide +kernel
theorem d_M_opensOld_181 : decode (rm_code mM_opensOld) 181 = .ok (.ireturn, 1) := by decide +kernel
theorem p_M_opensOld_0 {S : rz_S} {K : Int32 → rz_S → Prop} {a1 : Int32} {a2 : Int32} {a3 : Int32} {a4 : Int32} (w : rz_ev mM_finds [.ref 116, .int 0, .ref 151, .int a2, .int a3] S (rz_i (fun xq1 Sq1 => ((xq1 = (-1) → rz_ev mM_fault [.ref 116, .int 62, .int 0, .int 0] Sq1 (rz_i (fun xq9 Sq9 => K xq9 Sq9))) ∧ (¬ xq1 = (-1) → ((xq1 = 0 → rx_in ((16 * (Sq1.2 116 29)) + 2) 64 = true ∧ ((128 ≤ Sq1.1 124 (((16 * (Sq1.2 116 29)) + 2).toNatClampNeg) → ((a4 = 0 → rz mM_opensOld 99 [(0, .ref 116), (1, .int a1), (6, .int (16 * (Sq1.2 116 29)))] [] Sq1 (rz_i K)) ∧ (¬ a4 = 0 → (((Sq1.1 124 (((16 * (Sq1.2 116 29)) + 2).toNatClampNeg)) &&& 3 = a4 → rz mM_opensOld 99 [(0, .ref 116), (1, .int a1), (6, .int (16 * (Sq1.2 116 29)))] [] Sq1 (rz_i K)) ∧ (¬ (Sq1.1 124 (((16 * (Sq1.2 116 29)) + 2).toNatClampNeg)) &&& 3 = a4 → rz_ev mM_fault [.ref 116, .int 64, .int 0, .int 0] Sq1 (rz_i (fun xq7 Sq7 => K xq7 Sq7))))))) ∧ (¬ 128 ≤ Sq1.1 124 (((16 * (Sq1.2 116 29)) + 2).toNatClampNeg) → rz_ev mM_fault [.ref 116, .int 60, .int 0, .int 0] Sq1 (rz_i (fun xq8 Sq8 => K xq8 Sq8))))) ∧ (¬ xq1 = 0 → K xq1 Sq1))))))) : rz mM_opensOld 0 [(0, .ref 116), (1, .int a1), (2, .int a2), (3, .int a3), (4, .int a4)] [] S (rz_i K) := by
  refine rz_pure (pc' := 1) d_M_opensOld_0 rfl ?_
  refine rz_iconst (v := 0) d_M_opensOld_1 (by decide) ?_
  refine rz_pure (pc' := 3) d_M_opensOld_2 rfl ?_
  refine rz_getr d_M_opensOld_3 f_12_260 rfl rfl ?_
  refine rz_pure (pc' := 7) d_M_opensOld_6 rfl ?_
  refine rz_pure (pc' := 8) d_M_opensOld_7 rfl ?_
  refine rz_callVi (t := [.int a3, .int a2, .ref 151, .int 0]) d_M_opensOld_8 w_12_325 rfl rfl rfl w (fun xq1 Sq1 q1 => ?_)
  refine rz_pure (pc' := 13) (l' := [(5, .int xq1), (0, .ref 116), (1, .int a1), (2, .int a2), (3, .int a3), (4, .int a4)]) d_M_opensOld_11 rfl ?_
  refine rz_pure (pc' := 15) d_M_opensOld_13 rfl ?_
  refine rz_iconst (v := -1) d_M_opensOld_15 (by decide) ?_
  refine rz_icmpne (tgt := 28) d_M_opensOld_16 rfl (fun b2 => ?_) (fun b2 => ?_)
  · skip
    refine rz_pure (pc' := 30) d_M_opensOld_28 rfl ?_
    refine rz_ifeq (tgt := 36) d_M_opensOld_30 rfl (fun b3 => ?_) (fun b3 => ?_)
    · skip
      refine rz_bipush (v := 16) d_M_opensOld_36 (by decide) ?_
      refine rz_pure (pc' := 39) d_M_opensOld_38 rfl ?_
      refine rz_getiv (v := Sq1.2 116 29) d_M_opensOld_39 f_12_217 rfl rfl rfl ?_
      refine rz_imul d_M_opensOld_42 ?_
      refine rz_pure (pc' := 45) (l' := [(6, .int (16 * (Sq1.2 116 29))), (5, .int xq1), (0, .ref 116), (1, .int a1), (2, .int a2), (3, .int a3), (4, .int a4)]) d_M_opensOld_43 rfl ?_
      refine rz_pure (pc' := 46) d_M_opensOld_45 rfl ?_
      refine rz_getr d_M_opensOld_46 f_12_195 rfl rfl ?_
      refine rz_pure (pc' := 51) d_M_opensOld_49 rfl ?_
      refine rz_iconst (v := 2) d_M_opensOld_51 (by decide) ?_
      refine rz_iadd d_M_opensOld_52 ?_
      refine rz_ialdv (F := Sq1.1 124) (i := ((16 * (Sq1.2 116 29)) + 2).toNatClampNeg) d_M_opensOld_53 rfl ((q1.2 b2).1 b3).1 rfl rfl ?_
      refine rz_sipush (v := 128) d_M_opensOld_54 (by decide) ?_
      refine rz_icmpge (tgt := 69) d_M_opensOld_57 rfl (fun b4 => ?_) (fun b4 => ?_)
      · skip
        refine rz_pure (pc' := 71) d_M_opensOld_69 rfl ?_
        refine rz_ifeq (tgt := 99) d_M_opensOld_71 rfl (fun b5 => ?_) (fun b5 => ?_)
        · skip
          exact rz_pick (ks := [0, 1, 6]) (l := [(0, .ref 116), (1, .int a1), (6, .int (16 * (Sq1.2 116 29)))]) rfl rfl (by decide) rfl ((((q1.2 b2).1 b3).2.1 b4).1 b5)
        · skip
          refine rz_pure (pc' := 75) d_M_opensOld_74 rfl ?_
          refine rz_getr d_M_opensOld_75 f_12_195 rfl rfl ?_
          refine rz_pure (pc' := 80) d_M_opensOld_78 rfl ?_
          refine rz_iconst (v := 2) d_M_opensOld_80 (by decide) ?_
          refine rz_iadd d_M_opensOld_81 ?_
          refine rz_ialdv (F := Sq1.1 124) (i := ((16 * (Sq1.2 116 29)) + 2).toNatClampNeg) d_M_opensOld_82 rfl ((q1.2 b2).1 b3).1 rfl rfl ?_
          refine rz_iconst (v := 3) d_M_opensOld_83 (by decide) ?_
          refine rz_iand d_M_opensOld_84 ?_
          refine rz_pure (pc' := 87) d_M_opensOld_85 rfl ?_
          refine rz_icmpeq (tgt := 99) d_M_opensOld_87 rfl (fun b6 => ?_) (fun b6 => ?_)
          · skip
            exact rz_pick (ks := [0, 1, 6]) (l := [(0, .ref 116), (1, .int a1), (6, .int (16 * (Sq1.2 116 29)))]) rfl rfl (by decide) rfl (((((q1.2 b2).1 b3).2.1 b4).2 b5).1 b6)
          · skip
            refine rz_pure (pc' := 91) d_M_opensOld_90 rfl ?_
            refine rz_bipush (v := 64) d_M_opensOld_91 (by decide) ?_
            refine rz_iconst (v := 0) d_M_opensOld_93 (by decide) ?_
            refine rz_iconst (v := 0) d_M_opensOld_94 (by decide) ?_
            refine rz_callVi (t := [.int 0, .int 0, .int 64]) d_M_opensOld_95 w_12_113 rfl rfl rfl (((((q1.2 b2).1 b3).2.1 b4).2 b5).2 b6) (fun xq7 Sq7 q7 => ?_)
            exact rz_ireti d_M_opensOld_98 rfl rfl q7
      · skip
        refine rz_pure (pc' := 61) d_M_opensOld_60 rfl ?_
        refine rz_bipush (v := 60) d_M_opensOld_61 (by decide) ?_
        refine rz_iconst (v := 0) d_M_opensOld_63 (by decide) ?_
        refine rz_iconst (v := 0) d_M_opensOld_64 (by decide) ?_
        refine rz_callVi (t := [.int 0, .int 0, .int 60]) d_M_opensOld_65 w_12_113 rfl rfl rfl (((q1.2 b2).1 b3).2.2 b4) (fun xq8 Sq8 q8 => ?_)
        exact rz_ireti d_M_opensOld_68 rfl rfl q8
    · skip
      refine rz_pure (pc' := 35) d_M_opensOld_33 rfl ?_
      exact rz_ireti d_M_opensOld_35 rfl rfl ((q1.2 b2).2 b3)
  · skip
    refine rz_pure (pc' := 20) d_M_opensOld_19 rfl ?_
    refine rz_bipush (v := 62) d_M_opensOld_20 (by decide) ?_
    refine rz_iconst (v := 0) d_M_opensOld_22 (by decide) ?_
    refine rz_iconst (v := 0) d_M_opensOld_23 (by decide) ?_
    refine rz_callVi (t := [.int 0, .int 0, .int 62]) d_M_opensOld_24 w_12_113 rfl rfl rfl (q1.1 b2) (fun xq9 Sq9 q9 => ?_)
    exact rz_ireti d_M_opensOld_27 rfl rfl q9
theorem p_M_opensOld_99 {S : rz_S} {K : Int32 → rz_S → Prop} {a1 : Int32} {a6 : Int32} (w : rx_in (a6 + 3) 64 = true ∧ rx_in (a6 + 4) 64 = true ∧ rz_ev mM_isLegal [.int (S.1 124 ((a6 + 3).toNatClampNeg)), .int (S.1 124 ((a6 + 4).toNatClampNeg))] S (rz_i (fun xq1 Sq1 => ((xq1 = 0 → rz_ev mM_fault [.ref 116, .int 66, .int (S.1 124 ((a6 + 3).toNatClampNeg)), .int (S.1 124 ((a6 + 4).toNatClampNeg))] Sq1 (rz_i (fun xq6 Sq6 => K xq6 Sq6))) ∧ (¬ xq1 = 0 → rz_ev mM_readBlock [.ref 116, .int (S.1 124 ((a6 + 3).toNatClampNeg)), .int (S.1 124 ((a6 + 4).toNatClampNeg)), .ref 127, .int (64 * a1)] Sq1 (rz_i (fun xq3 Sq3 => ((xq3 = 0 → rz_ev mM_begun [.ref 116, .int a1] Sq3 (rz_v (fun Sq5 => rx_in a1 15 = true ∧ K 0 (rz_fA Sq5 126 (upd (Sq5.1 126) a1.toNatClampNeg 1))))) ∧ (¬ xq3 = 0 → K xq3 Sq3))))))))) : rz mM_opensOld 99 [(0, .ref 116), (1, .int a1), (6, .int a6)] [] S (rz_i K) := by
  refine rz_pure (pc' := 100) d_M_opensOld_99 rfl ?_
  refine rz_getr d_M_opensOld_100 f_12_195 rfl rfl ?_
  refine rz_pure (pc' := 105) d_M_opensOld_103 rfl ?_
  refine rz_iconst (v := 3) d_M_opensOld_105 (by decide) ?_
  refine rz_iadd d_M_opensOld_106 ?_
  refine rz_ialdv (F := S.1 124) (i := (a6 + 3).toNatClampNeg) d_M_opensOld_107 rfl w.1 rfl rfl ?_
  refine rz_pure (pc' := 110) (l' := [(7, .int (S.1 124 ((a6 + 3).toNatClampNeg))), (0, .ref 116), (1, .int a1), (6, .int a6)]) d_M_opensOld_108 rfl ?_
  refine rz_pure (pc' := 111) d_M_opensOld_110 rfl ?_
  refine rz_getr d_M_opensOld_111 f_12_195 rfl rfl ?_
  refine rz_pure (pc' := 116) d_M_opensOld_114 rfl ?_
  refine rz_iconst (v := 4) d_M_opensOld_116 (by decide) ?_
  refine rz_iadd d_M_opensOld_117 ?_
  refine rz_ialdv (F := S.1 124) (i := (a6 + 4).toNatClampNeg) d_M_opensOld_118 rfl w.2.1 rfl rfl ?_
  refine rz_pure (pc' := 121) (l' := [(8, .int (S.1 124 ((a6 + 4).toNatClampNeg))), (7, .int (S.1 124 ((a6 + 3).toNatClampNeg))), (0, .ref 116), (1, .int a1), (6, .int a6)]) d_M_opensOld_119 rfl ?_
  refine rz_pure (pc' := 123) d_M_opensOld_121 rfl ?_
  refine rz_pure (pc' := 125) d_M_opensOld_123 rfl ?_
  refine rz_callSi (t := [.int (S.1 124 ((a6 + 4).toNatClampNeg)), .int (S.1 124 ((a6 + 3).toNatClampNeg))]) d_M_opensOld_125 rfl w_12_161 rfl rfl w.2.2 (fun xq1 Sq1 q1 => ?_)
  refine rz_ifne (tgt := 142) d_M_opensOld_128 rfl (fun b2 => ?_) (fun b2 => ?_)
  · skip
    refine rz_pure (pc' := 143) d_M_opensOld_142 rfl ?_
    refine rz_pure (pc' := 145) d_M_opensOld_143 rfl ?_
    refine rz_pure (pc' := 147) d_M_opensOld_145 rfl ?_
    refine rz_pure (pc' := 148) d_M_opensOld_147 rfl ?_
    refine rz_getr d_M_opensOld_148 f_12_284 rfl rfl ?_
    refine rz_bipush (v := 64) d_M_opensOld_151 (by decide) ?_
    refine rz_pure (pc' := 154) d_M_opensOld_153 rfl ?_
    refine rz_imul d_M_opensOld_154 ?_
    refine rz_callVi (t := [.int (64 * a1), .ref 127, .int (S.1 124 ((a6 + 4).toNatClampNeg)), .int (S.1 124 ((a6 + 3).toNatClampNeg))]) d_M_opensOld_155 w_12_148 rfl rfl rfl (q1.2 b2) (fun xq3 Sq3 q3 => ?_)
    refine rz_pure (pc' := 160) (l' := [(5, .int xq3), (8, .int (S.1 124 ((a6 + 4).toNatClampNeg))), (7, .int (S.1 124 ((a6 + 3).toNatClampNeg))), (0, .ref 116), (1, .int a1), (6, .int a6)]) d_M_opensOld_158 rfl ?_
    refine rz_pure (pc' := 162) d_M_opensOld_160 rfl ?_
    refine rz_ifeq (tgt := 168) d_M_opensOld_162 rfl (fun b4 => ?_) (fun b4 => ?_)
    · skip
      refine rz_pure (pc' := 169) d_M_opensOld_168 rfl ?_
      refine rz_pure (pc' := 170) d_M_opensOld_169 rfl ?_
      refine rz_callVv (t := [.int a1]) d_M_opensOld_170 w_12_329 rfl rfl rfl (q3.1 b4) (fun Sq5 q5 => ?_)
      refine rz_pure (pc' := 174) d_M_opensOld_173 rfl ?_
      refine rz_getr d_M_opensOld_174 f_12_248 rfl rfl ?_
      refine rz_pure (pc' := 178) d_M_opensOld_177 rfl ?_
      refine rz_iconst (v := 1) d_M_opensOld_178 (by decide) ?_
      refine rz_iastv (F := Sq5.1 126) (i := a1.toNatClampNeg) d_M_opensOld_179 rfl q5.1 rfl rfl ?_
      refine rz_iconst (v := 0) d_M_opensOld_180 (by decide) ?_
      exact rz_ireti d_M_opensOld_181 rfl rfl q5.2
    · skip
      refine rz_pure (pc' := 167) d_M_opensOld_165 rfl ?_
      exact rz_ireti d_M_opensOld_167 rfl rfl (q3.2 b4)
  · skip
    refine rz_pure (pc' := 132) d_M_opensOld_131 rfl ?_
    refine rz_bipush (v := 66) d_M_opensOld_132 (by decide) ?_
    refine rz_pure (pc' := 136) d_M_opensOld_134 rfl ?_
    refine rz_pure (pc' := 138) d_M_opensOld_136 rfl ?_
    refine rz_callVi (t := [.int (S.1 124 ((a6 + 4).toNatClampNeg)), .int (S.1 124 ((a6 + 3).toNatClampNeg)), .int 66]) d_M_opensOld_138 w_12_113 rfl rfl rfl (q1.1 b2) (fun xq6 Sq6 q6 => ?_)
    exact rz_ireti d_M_opensOld_141 rfl rfl q6
theorem d_M_makesEntry_0 : decode (rm_code mM_makesEntry) 0 = .ok (.aload_n 0, 1) := by decide +kernel
theorem d_M_makesEntry_1 : decode (rm_code mM_makesEntry) 1 = .ok (.iconst 2, 1) := by decide +kernel
theorem d_M_makesEntry_2 : decode (rm_code mM_makesEntry) 2 = .ok (.aload_n 0, 1) := by decide +kernel
theorem d_M_makesEntry_3 : decode (rm_code mM_makesEntry) 3 = .ok (.getfield 260, 3) := by decide +kernel
theorem d_M_makesEntry_6 : decode (rm_code mM_makesEntry) 6 = .ok (.iconst 0, 1) := by decide +kernel
theorem d_M_makesEntry_7 : decode (rm_code mM_makesEntry) 7 = .ok (.iconst 0, 1) := by decide +kernel
theorem d_M_makesEntry_8 : decode (rm_code mM_makesEntry) 8 = .ok (.invokevirtual 325, 3) := by decide +kernel
theorem d_M_makesEntry_11 : decode (rm_code mM_makesEntry) 11 = .ok (.istore_n 1, 1) := by decide +kernel
theorem d_M_makesEntry_12 : decode (rm_code mM_makesEntry) 12 = .ok (.iload_n 1, 1) := by decide +kernel
theorem d_M_makesEntry_13 : decode (rm_code mM_makesEntry) 13 = .ok (.iconst (-1), 1) := by decide +kernel
theorem d_M_makesEntry_14 : decode (rm_code mM_makesEntry) 14 = .ok (.if_icmp .eq (5), 3) := by decide +kernel
theorem d_M_makesEntry_17 : decode (rm_code mM_makesEntry) 17 = .ok (.iload_n 1, 1) := by decide +kernel
theorem d_M_makesEntry_18 : decode (rm_code mM_makesEntry) 18 = .ok (.ireturn, 1) := by decide +kernel
theorem d_M_makesEntry_19 : decode (rm_code mM_makesEntry) 19 = .ok (.aload_n 0, 1) := by decide +kernel
theorem d_M_makesEntry_20 : decode (rm_code mM_makesEntry) 20 = .ok (.getfield 192, 3) := by decide +kernel
theorem d_M_makesEntry_23 : decode (rm_code mM_makesEntry) 23 = .ok (.bipush (6), 2) := by decide +kernel
theorem d_M_makesEntry_25 : decode (rm_code mM_makesEntry) 25 = .ok (.if_icmp .lt (12), 3) := by decide +kernel
theorem d_M_makesEntry_28 : decode (rm_code mM_makesEntry) 28 = .ok (.aload_n 0, 1) := by decide +kernel
theorem d_M_makesEntry_29 : decode (rm_code mM_makesEntry) 29 = .ok (.bipush (72), 2) := by decide +kernel
theorem d_M_makesEntry_31 : decode (rm_code mM_makesEntry) 31 = .ok (.iconst 0, 1) := by decide +kernel
theorem d_M_makesEntry_32 : decode (rm_code mM_makesEntry) 32 = .ok (.iconst 0, 1) := by decide +kernel
theorem d_M_makesEntry_33 : decode (rm_code mM_makesEntry) 33 = .ok (.invokevirtual 113, 3) := by decide +kernel
theorem d_M_makesEntry_36 : decode (rm_code mM_makesEntry) 36 = .ok (.ireturn, 1) := by decide +kernel
theorem d_M_makesEntry_37 : decode (rm_code mM_makesEntry) 37 = .ok (.aload_n 0, 1) := by decide +kernel
theorem d_M_makesEntry_38 : decode (rm_code mM_makesEntry) 38 = .ok (.getfield 198, 3) := by decide +kernel
theorem d_M_makesEntry_41 : decode (rm_code mM_makesEntry) 41 = .ok (.istore_n 2, 1) := by decide +kernel
theorem d_M_makesEntry_42 : decode (rm_code mM_makesEntry) 42 = .ok (.aload_n 0, 1) := by decide +kernel
theorem d_M_makesEntry_43 : decode (rm_code mM_makesEntry) 43 = .ok (.getfield 201, 3) := by decide +kernel
theorem d_M_makesEntry_46 : decode (rm_code mM_makesEntry) 46 = .ok (.istore_n 3, 1) := by decide +kernel
theorem d_M_makesEntry_47 : decode (rm_code mM_makesEntry) 47 = .ok (.aload_n 0, 1) := by decide +kernel
theorem d_M_makesEntry_48 : decode (rm_code mM_makesEntry) 48 = .ok (.invokevirtual 180, 3) := by decide +kernel
theorem d_M_makesEntry_51 : decode (rm_code mM_makesEntry) 51 = .ok (.istore_n 1, 1) := by decide +kernel
theorem d_M_makesEntry_52 : decode (rm_code mM_makesEntry) 52 = .ok (.iload_n 1, 1) := by decide +kernel
theorem d_M_makesEntry_53 : decode (rm_code mM_makesEntry) 53 = .ok (.ifCond .eq (5), 3) := by decide +kernel
theorem d_M_makesEntry_56 : decode (rm_code mM_makesEntry) 56 = .ok (.iload_n 1, 1) := by decide +kernel
theorem d_M_makesEntry_57 : decode (rm_code mM_makesEntry) 57 = .ok (.ireturn, 1) := by decide +kernel
theorem d_M_makesEntry_58 : decode (rm_code mM_makesEntry) 58 = .ok (.aload_n 0, 1) := by decide +kernel
theorem d_M_makesEntry_59 : decode (rm_code mM_makesEntry) 59 = .ok (.bipush (7), 2) := by decide +kernel
theorem d_M_makesEntry_61 : decode (rm_code mM_makesEntry) 61 = .ok (.invokevirtual 171, 3) := by decide +kernel
theorem d_M_makesEntry_64 : decode (rm_code mM_makesEntry) 64 = .ok (.istore 4, 2) := by decide +kernel
theorem d_M_makesEntry_66 : decode (rm_code mM_makesEntry) 66 = .ok (.iload 4, 2) := by decide +kernel
theorem d_M_makesEntry_68 : decode (rm_code mM_makesEntry) 68 = .ok (.iconst (-1), 1) := by decide +kernel
theorem d_M_makesEntry_69 : decode (rm_code mM_makesEntry) 69 = .ok (.if_icmp .ne (12), 3) := by decide +kernel
theorem d_M_makesEntry_72 : decode (rm_code mM_makesEntry) 72 = .ok (.aload_n 0, 1) := by decide +kernel
theorem d_M_makesEntry_73 : decode (rm_code mM_makesEntry) 73 = .ok (.bipush (72), 2) := by decide +kernel
theorem d_M_makesEntry_75 : decode (rm_code mM_makesEntry) 75 = .ok (.iconst 0, 1) := by decide +kernel
theorem d_M_makesEntry_76 : decode (rm_code mM_makesEntry) 76 = .ok (.iconst 0, 1) := by decide +kernel
theorem d_M_makesEntry_77 : decode (rm_code mM_makesEntry) 77 = .ok (.invokevirtual 113, 3) := by decide +kernel
theorem d_M_makesEntry_80 : decode (rm_code mM_makesEntry) 80 = .ok (.ireturn, 1) := by decide +kernel
theorem d_M_makesEntry_81 : decode (rm_code mM_makesEntry) 81 = .ok (.aload_n 0, 1) := by decide +kernel
theorem d_M_makesEntry_82 : decode (rm_code mM_makesEntry) 82 = .ok (.bipush (7), 2) := by decide +kernel
theorem d_M_makesEntry_84 : decode (rm_code mM_makesEntry) 84 = .ok (.iload 4, 2) := by decide +kernel
theorem d_M_makesEntry_86 : decode (rm_code mM_makesEntry) 86 = .ok (.invokevirtual 174, 3) := by decide +kernel
theorem d_M_makesEntry_89 : decode (rm_code mM_makesEntry) 89 = .ok (.aload_n 0, 1) := by decide +kernel
theorem d_M_makesEntry_90 : decode (rm_code mM_makesEntry) 90 = .ok (.invokevirtual 189, 3) := by decide +kernel
theorem d_M_makesEntry_93 : decode (rm_code mM_makesEntry) 93 = .ok (.istore_n 1, 1) := by decide +kernel
theorem d_M_makesEntry_94 : decode (rm_code mM_makesEntry) 94 = .ok (.iload_n 1, 1) := by decide +kernel
theorem d_M_makesEntry_95 : decode (rm_code mM_makesEntry) 95 = .ok (.ifCond .eq (5), 3) := by decide +kernel
theorem d_M_makesEntry_98 : decode (rm_code mM_makesEntry) 98 = .ok (.iload_n 1, 1) := by decide +kernel
theorem d_M_makesEntry_99 : decode (rm_code mM_makesEntry) 99 = .ok (.ireturn, 1) := by decide +kernel
theorem d_M_makesEntry_100 : decode (rm_code mM_makesEntry) 100 = .ok (.iconst 0, 1) := by decide +kernel
theorem d_M_makesEntry_101 : decode (rm_code mM_makesEntry) 101 = .ok (.istore 5, 2) := by decide +kernel
theorem d_M_makesEntry_103 : decode (rm_code mM_makesEntry) 103 = .ok (.iload 5, 2) := by decide +kernel
theorem d_M_makesEntry_105 : decode (rm_code mM_makesEntry) 105 = .ok (.bipush (64), 2) := by decide +kernel
theorem d_M_makesEntry_107 : decode (rm_code mM_makesEntry) 107 = .ok (.if_icmp .ge (29), 3) := by decide +kernel
theorem d_M_makesEntry_110 : decode (rm_code mM_makesEntry) 110 = .ok (.aload_n 0, 1) := by decide +kernel
theorem d_M_makesEntry_111 : decode (rm_code mM_makesEntry) 111 = .ok (.getfield 186, 3) := by decide +kernel
theorem d_M_makesEntry_114 : decode (rm_code mM_makesEntry) 114 = .ok (.iload 5, 2) := by decide +kernel
theorem d_M_makesEntry_116 : decode (rm_code mM_makesEntry) 116 = .ok (.iload 5, 2) := by decide +kernel
theorem d_M_makesEntry_118 : decode (rm_code mM_makesEntry) 118 = .ok (.iconst 1, 1) := by decide +kernel
theorem d_M_makesEntry_119 : decode (rm_code mM_makesEntry) 119 = .ok (.if_icmp .ne (9), 3) := by decide +kernel
theorem d_M_makesEntry_122 : decode (rm_code mM_makesEntry) 122 = .ok (.sipush (255), 3) := by decide +kernel
theorem d_M_makesEntry_125 : decode (rm_code mM_makesEntry) 125 = .ok (.goto (4), 3) := by decide +kernel
theorem d_M_makesEntry_128 : decode (rm_code mM_makesEntry) 128 = .ok (.iconst 0, 1) := by decide +kernel
theorem d_M_makesEntry_129 : decode (rm_code mM_makesEntry) 129 = .ok (.iastore, 1) := by decide +kernel
theorem d_M_makesEntry_130 : decode (rm_code mM_makesEntry) 130 = .ok (.iinc 5 (1), 3) := by decide +kernel
theorem d_M_makesEntry_133 : decode (rm_code mM_makesEntry) 133 = .ok (.goto (-30), 3) := by decide +kernel
theorem d_M_makesEntry_136 : decode (rm_code mM_makesEntry) 136 = .ok (.aload_n 0, 1) := by decide +kernel
theorem d_M_makesEntry_137 : decode (rm_code mM_makesEntry) 137 = .ok (.bipush (7), 2) := by decide +kernel
theorem d_M_makesEntry_139 : decode (rm_code mM_makesEntry) 139 = .ok (.iload 4, 2) := by decide +kernel
theorem d_M_makesEntry_141 : decode (rm_code mM_makesEntry) 141 = .ok (.aload_n 0, 1) := by decide +kernel
theorem d_M_makesEntry_142 : decode (rm_code mM_makesEntry) 142 = .ok (.getfield 186, 3) := by decide +kernel
theorem d_M_makesEntry_145 : decode (rm_code mM_makesEntry) 145 = .ok (.iconst 0, 1) := by decide +kernel
theorem d_M_makesEntry_146 : decode (rm_code mM_makesEntry) 146 = .ok (.invokevirtual 152, 3) := by decide +kernel
theorem d_M_makesEntry_149 : decode (rm_code mM_makesEntry) 149 = .ok (.istore_n 1, 1) := by decide +kernel
theorem d_M_makesEntry_150 : decode (rm_code mM_makesEntry) 150 = .ok (.iload_n 1, 1) := by decide +kernel
theorem d_M_makesEntry_151 : decode (rm_code mM_makesEntry) 151 = .ok (.ifCond .eq (5), 3) := by decide +kernel
theorem d_M_makesEntry_154 : decode (rm_code mM_makesEntry) 154 = .ok (.iload_n 1, 1) := by decide +kernel
theorem d_M_makesEntry_155 : decode (rm_code mM_makesEntry) 155 = .ok (.ireturn, 1) := by decide +kernel
theorem d_M_makesEntry_156 : decode (rm_code mM_makesEntry) 156 = .ok (.aload_n 0, 1) := by decide +kernel
theorem d_M_makesEntry_157 : decode (rm_code mM_makesEntry) 157 = .ok (.iload_n 2, 1) := by decide +kernel
theorem d_M_makesEntry_158 : decode (rm_code mM_makesEntry) 158 = .ok (.iload_n 3, 1) := by decide +kernel
theorem d_M_makesEntry_159 : decode (rm_code mM_makesEntry) 159 = .ok (.aload_n 0, 1) := by decide +kernel
theorem d_M_makesEntry_160 : decode (rm_code mM_makesEntry) 160 = .ok (.getfield 186, 3) := by decide +kernel
theorem d_M_makesEntry_163 : decode (rm_code mM_makesEntry) 163 = .ok (.iconst 0, 1) := by decide +kernel
theorem d_M_makesEntry_164 : decode (rm_code mM_makesEntry) 164 = .ok (.invokevirtual 148, 3) := by decide +kernel
theorem d_M_makesEntry_167 : decode (rm_code mM_makesEntry) 167 = .ok (.istore_n 1, 1) := by decide +kernel
theorem d_M_makesEntry_168 : decode (rm_code mM_makesEntry) 168 = .ok (.iload_n 1, 1) := by decide +kernel
theorem d_M_makesEntry_169 : decode (rm_code mM_makesEntry) 169 = .ok (.ifCond .eq (5), 3) := by decide +kernel
theorem d_M_makesEntry_172 : decode (rm_code mM_makesEntry) 172 = .ok (.iload_n 1, 1) := by decide +kernel
theorem d_M_makesEntry_173 : decode (rm_code mM_makesEntry) 173 = .ok (.ireturn, 1) := by decide +kernel
theorem d_M_makesEntry_174 : decode (rm_code mM_makesEntry) 174 = .ok (.aload_n 0, 1) := by decide +kernel
theorem d_M_makesEntry_175 : decode (rm_code mM_makesEntry) 175 = .ok (.getfield 186, 3) := by decide +kernel
theorem d_M_makesEntry_178 : decode (rm_code mM_makesEntry) 178 = .ok (.iconst 0, 1) := by decide +kernel
theorem d_M_makesEntry_179 : decode (rm_code mM_makesEntry) 179 = .ok (.bipush (7), 2) := by decide +kernel
theorem d_M_makesEntry_181 : decode (rm_code mM_makesEntry) 181 = .ok (.iastore, 1) := by decide +kernel
theorem d_M_makesEntry_182 : decode (rm_code mM_makesEntry) 182 = .ok (.aload_n 0, 1) := by decide +kernel
theorem d_M_makesEntry_183 : decode (rm_code mM_makesEntry) 183 = .ok (.getfield 186, 3) := by decide +kernel
theorem d_M_makesEntry_186 : decode (rm_code mM_makesEntry) 186 = .ok (.iconst 1, 1) := by decide +kernel
theorem d_M_makesEntry_187 : decode (rm_code mM_makesEntry) 187 = .ok (.iload 4, 2) := by decide +kernel
theorem d_M_makesEntry_189 : decode (rm_code mM_makesEntry) 189 = .ok (.iastore, 1) := by decide +kernel
theorem d_M_makesEntry_190 : decode (rm_code mM_makesEntry) 190 = .ok (.aload_n 0, 1) := by decide +kernel
theorem d_M_makesEntry_191 : decode (rm_code mM_makesEntry) 191 = .ok (.iload_n 2, 1) := by decide +kernel
theorem d_M_makesEntry_192 : decode (rm_code mM_makesEntry) 192 = .ok (.iload_n 3, 1) := by decide +kernel
theorem d_M_makesEntry_193 : decode (rm_code mM_makesEntry) 193 = .ok (.aload_n 0, 1) := by decide +kernel
theorem d_M_makesEntry_194 : decode (rm_code mM_makesEntry) 194 = .ok (.getfield 186, 3) := by decide +kernel
theorem d_M_makesEntry_197 : decode (rm_code mM_makesEntry) 197 = .ok (.iconst 0, 1) := by decide +kernel
theorem d_M_makesEntry_198 : decode (rm_code mM_makesEntry) 198 = .ok (.invokevirtual 152, 3) := by decide +kernel
theorem d_M_makesEntry_201 : decode (rm_code mM_makesEntry) 201 = .ok (.istore_n 1, 1) := by decide +kernel
theorem d_M_makesEntry_202 : decode (rm_code mM_makesEntry) 202 = .ok (.aload_n 0, 1) := by decide +kernel
theorem d_M_makesEntry_203 : decode (rm_code mM_makesEntry) 203 = .ok (.bipush (7), 2) := by decide +kernel
theorem d_M_makesEntry_205 : decode (rm_code mM_makesEntry) 205 = .ok (.putfield 211, 3) := by decide +kernel
theorem d_M_makesEntry_208 : decode (rm_code mM_makesEntry) 208 = .ok (.aload_n 0, 1) := by decide +kernel
theorem d_M_makesEntry_209 : decode (rm_code mM_makesEntry) 209 = .ok (.iload 4, 2) := by decide +kernel
theorem d_M_makesEntry_211 : decode (rm_code mM_makesEntry) 211 = .ok (.putfield 214, 3) := by decide +kernel
theorem d_M_makesEntry_214 : decode (rm_code mM_makesEntry) 214 = .ok (.aload_n 0, 1) := by decide +kernel
theorem d_M_makesEntry_215 : decode (rm_code mM_makesEntry) 215 = .ok (.iconst 0, 1) := by decide +kernel
theorem d_M_makesEntry_216 : decode (rm_code mM_makesEntry) 216 = .ok (.putfield 217, 3) := by decide +kernel
theorem d_M_makesEntry_219 : decode (rm_code mM_makesEntry) 219 = .ok (.iload_n 1, 1) := by decide +kernel
theorem d_M_makesEntry_220 : decode (rm_code mM_makesEntry) 220 = .ok (.ireturn, 1) := by decide +kernel
theorem p_M_makesEntry_0 {S : rz_S} {K : Int32 → rz_S → Prop} (w : rz_ev mM_finds [.ref 116, .int 2, .ref 151, .int 0, .int 0] S (rz_i (fun xq1 Sq1 => ((xq1 = (-1) → ((Sq1.2 116 32 < 6 → rz_ev mM_loads [.ref 116] Sq1 (rz_i (fun xq4 Sq4 => ((xq4 = 0 → rz_ev mM_lowest [.ref 116, .int 7] Sq4 (rz_i (fun xq6 Sq6 => ((xq6 = (-1) → rz_ev mM_fault [.ref 116, .int 72, .int 0, .int 0] Sq6 (rz_i (fun xq11 Sq11 => K xq11 Sq11))) ∧ (¬ xq6 = (-1) → rz_ev mM_takes [.ref 116, .int 7, .int xq6] Sq6 (rz_v (fun Sq8 => rz_ev mM_stores [.ref 116] Sq8 (rz_i (fun xq9 Sq9 => ((xq9 = 0 → rz mM_makesEntry 103 [(0, .ref 116), (2, .int (Sq1.2 116 30)), (3, .int (Sq1.2 116 31)), (4, .int xq6), (5, .int 0)] [] Sq9 (rz_i K)) ∧ (¬ xq9 = 0 → K xq9 Sq9))))))))))) ∧ (¬ xq4 = 0 → K xq4 Sq4))))) ∧ (¬ Sq1.2 116 32 < 6 → rz_ev mM_fault [.ref 116, .int 72, .int 0, .int 0] Sq1 (rz_i (fun xq12 Sq12 => K xq12 Sq12))))) ∧ (¬ xq1 = (-1) → K xq1 Sq1))))) : rz mM_makesEntry 0 [(0, .ref 116)] [] S (rz_i K) := by
  refine rz_pure (pc' := 1) d_M_makesEntry_0 rfl ?_
  refine rz_iconst (v := 2) d_M_makesEntry_1 (by decide) ?_
  refine rz_pure (pc' := 3) d_M_makesEntry_2 rfl ?_
  refine rz_getr d_M_makesEntry_3 f_12_260 rfl rfl ?_
  refine rz_iconst (v := 0) d_M_makesEntry_6 (by decide) ?_
  refine rz_iconst (v := 0) d_M_makesEntry_7 (by decide) ?_
  refine rz_callVi (t := [.int 0, .int 0, .ref 151, .int 2]) d_M_makesEntry_8 w_12_325 rfl rfl rfl w (fun xq1 Sq1 q1 => ?_)
  refine rz_pure (pc' := 12) (l' := [(1, .int xq1), (0, .ref 116)]) d_M_makesEntry_11 rfl ?_
  refine rz_pure (pc' := 13) d_M_makesEntry_12 rfl ?_
  refine rz_iconst (v := -1) d_M_makesEntry_13 (by decide) ?_
  refine rz_icmpeq (tgt := 19) d_M_makesEntry_14 rfl (fun b2 => ?_) (fun b2 => ?_)
  · skip
    refine rz_pure (pc' := 20) d_M_makesEntry_19 rfl ?_
    refine rz_getiv (v := Sq1.2 116 32) d_M_makesEntry_20 f_12_192 rfl rfl rfl ?_
    refine rz_bipush (v := 6) d_M_makesEntry_23 (by decide) ?_
    refine rz_icmplt (tgt := 37) d_M_makesEntry_25 rfl (fun b3 => ?_) (fun b3 => ?_)
    · skip
      refine rz_pure (pc' := 38) d_M_makesEntry_37 rfl ?_
      refine rz_getiv (v := Sq1.2 116 30) d_M_makesEntry_38 f_12_198 rfl rfl rfl ?_
      refine rz_pure (pc' := 42) (l' := [(2, .int (Sq1.2 116 30)), (1, .int xq1), (0, .ref 116)]) d_M_makesEntry_41 rfl ?_
      refine rz_pure (pc' := 43) d_M_makesEntry_42 rfl ?_
      refine rz_getiv (v := Sq1.2 116 31) d_M_makesEntry_43 f_12_201 rfl rfl rfl ?_
      refine rz_pure (pc' := 47) (l' := [(3, .int (Sq1.2 116 31)), (2, .int (Sq1.2 116 30)), (1, .int xq1), (0, .ref 116)]) d_M_makesEntry_46 rfl ?_
      refine rz_pure (pc' := 48) d_M_makesEntry_47 rfl ?_
      refine rz_callVi (t := []) d_M_makesEntry_48 w_12_180 rfl rfl rfl ((q1.1 b2).1 b3) (fun xq4 Sq4 q4 => ?_)
      refine rz_pure (pc' := 52) (l' := [(1, .int xq4), (3, .int (Sq1.2 116 31)), (2, .int (Sq1.2 116 30)), (0, .ref 116)]) d_M_makesEntry_51 rfl ?_
      refine rz_pure (pc' := 53) d_M_makesEntry_52 rfl ?_
      refine rz_ifeq (tgt := 58) d_M_makesEntry_53 rfl (fun b5 => ?_) (fun b5 => ?_)
      · skip
        refine rz_pure (pc' := 59) d_M_makesEntry_58 rfl ?_
        refine rz_bipush (v := 7) d_M_makesEntry_59 (by decide) ?_
        refine rz_callVi (t := [.int 7]) d_M_makesEntry_61 w_12_171 rfl rfl rfl (q4.1 b5) (fun xq6 Sq6 q6 => ?_)
        refine rz_pure (pc' := 66) (l' := [(4, .int xq6), (1, .int xq4), (3, .int (Sq1.2 116 31)), (2, .int (Sq1.2 116 30)), (0, .ref 116)]) d_M_makesEntry_64 rfl ?_
        refine rz_pure (pc' := 68) d_M_makesEntry_66 rfl ?_
        refine rz_iconst (v := -1) d_M_makesEntry_68 (by decide) ?_
        refine rz_icmpne (tgt := 81) d_M_makesEntry_69 rfl (fun b7 => ?_) (fun b7 => ?_)
        · skip
          refine rz_pure (pc' := 82) d_M_makesEntry_81 rfl ?_
          refine rz_bipush (v := 7) d_M_makesEntry_82 (by decide) ?_
          refine rz_pure (pc' := 86) d_M_makesEntry_84 rfl ?_
          refine rz_callVv (t := [.int xq6, .int 7]) d_M_makesEntry_86 w_12_174 rfl rfl rfl (q6.2 b7) (fun Sq8 q8 => ?_)
          refine rz_pure (pc' := 90) d_M_makesEntry_89 rfl ?_
          refine rz_callVi (t := []) d_M_makesEntry_90 w_12_189 rfl rfl rfl q8 (fun xq9 Sq9 q9 => ?_)
          refine rz_pure (pc' := 94) (l' := [(1, .int xq9), (4, .int xq6), (3, .int (Sq1.2 116 31)), (2, .int (Sq1.2 116 30)), (0, .ref 116)]) d_M_makesEntry_93 rfl ?_
          refine rz_pure (pc' := 95) d_M_makesEntry_94 rfl ?_
          refine rz_ifeq (tgt := 100) d_M_makesEntry_95 rfl (fun b10 => ?_) (fun b10 => ?_)
          · skip
            refine rz_iconst (v := 0) d_M_makesEntry_100 (by decide) ?_
            refine rz_pure (pc' := 103) (l' := [(5, .int 0), (1, .int xq9), (4, .int xq6), (3, .int (Sq1.2 116 31)), (2, .int (Sq1.2 116 30)), (0, .ref 116)]) d_M_makesEntry_101 rfl ?_
            exact rz_pick (ks := [0, 2, 3, 4, 5]) (l := [(0, .ref 116), (2, .int (Sq1.2 116 30)), (3, .int (Sq1.2 116 31)), (4, .int xq6), (5, .int 0)]) rfl rfl (by decide) rfl (q9.1 b10)
          · skip
            refine rz_pure (pc' := 99) d_M_makesEntry_98 rfl ?_
            exact rz_ireti d_M_makesEntry_99 rfl rfl (q9.2 b10)
        · skip
          refine rz_pure (pc' := 73) d_M_makesEntry_72 rfl ?_
          refine rz_bipush (v := 72) d_M_makesEntry_73 (by decide) ?_
          refine rz_iconst (v := 0) d_M_makesEntry_75 (by decide) ?_
          refine rz_iconst (v := 0) d_M_makesEntry_76 (by decide) ?_
          refine rz_callVi (t := [.int 0, .int 0, .int 72]) d_M_makesEntry_77 w_12_113 rfl rfl rfl (q6.1 b7) (fun xq11 Sq11 q11 => ?_)
          exact rz_ireti d_M_makesEntry_80 rfl rfl q11
      · skip
        refine rz_pure (pc' := 57) d_M_makesEntry_56 rfl ?_
        exact rz_ireti d_M_makesEntry_57 rfl rfl (q4.2 b5)
    · skip
      refine rz_pure (pc' := 29) d_M_makesEntry_28 rfl ?_
      refine rz_bipush (v := 72) d_M_makesEntry_29 (by decide) ?_
      refine rz_iconst (v := 0) d_M_makesEntry_31 (by decide) ?_
      refine rz_iconst (v := 0) d_M_makesEntry_32 (by decide) ?_
      refine rz_callVi (t := [.int 0, .int 0, .int 72]) d_M_makesEntry_33 w_12_113 rfl rfl rfl ((q1.1 b2).2 b3) (fun xq12 Sq12 q12 => ?_)
      exact rz_ireti d_M_makesEntry_36 rfl rfl q12
  · skip
    refine rz_pure (pc' := 18) d_M_makesEntry_17 rfl ?_
    exact rz_ireti d_M_makesEntry_18 rfl rfl (q1.2 b2)
theorem p_M_makesEntry_103 {S : rz_S} {K : Int32 → rz_S → Prop} {a2 : Int32} {a3 : Int32} {a4 : Int32} {a5 : Int32} (w : ((64 ≤ a5 → rz_ev mM_writeBlock [.ref 116, .int 7, .int a4, .ref 125, .int 0] S (rz_i (fun xq2 Sq2 => ((xq2 = 0 → rz_ev mM_readBlock [.ref 116, .int a2, .int a3, .ref 125, .int 0] Sq2 (rz_i (fun xq4 Sq4 => ((xq4 = 0 → rz_ev mM_writeBlock [.ref 116, .int a2, .int a3, .ref 125, .int 0] (rz_fA (rz_fA Sq4 125 (upd (Sq4.1 125) 0 7)) 125 (upd (upd (Sq4.1 125) 0 7) 1 a4)) (rz_i (fun xq6 Sq6 => K xq6 (rz_uI (rz_uI (rz_uI Sq6 116 27 7) 116 28 a4) 116 29 0)))) ∧ (¬ xq4 = 0 → K xq4 Sq4))))) ∧ (¬ xq2 = 0 → K xq2 Sq2))))) ∧ (¬ 64 ≤ a5 → ((a5 = 1 → rx_in a5 64 = true ∧ rz mM_makesEntry 103 [(0, .ref 116), (2, .int a2), (3, .int a3), (4, .int a4), (5, .int (a5 + 1))] [] (rz_fA S 125 (upd (S.1 125) a5.toNatClampNeg 255)) (rz_i K)) ∧ (¬ a5 = 1 → rx_in a5 64 = true ∧ rz mM_makesEntry 103 [(0, .ref 116), (2, .int a2), (3, .int a3), (4, .int a4), (5, .int (a5 + 1))] [] (rz_fA S 125 (upd (S.1 125) a5.toNatClampNeg 0)) (rz_i K)))))) : rz mM_makesEntry 103 [(0, .ref 116), (2, .int a2), (3, .int a3), (4, .int a4), (5, .int a5)] [] S (rz_i K) := by
  refine rz_pure (pc' := 105) d_M_makesEntry_103 rfl ?_
  refine rz_bipush (v := 64) d_M_makesEntry_105 (by decide) ?_
  refine rz_icmpge (tgt := 136) d_M_makesEntry_107 rfl (fun b1 => ?_) (fun b1 => ?_)
  · skip
    refine rz_pure (pc' := 137) d_M_makesEntry_136 rfl ?_
    refine rz_bipush (v := 7) d_M_makesEntry_137 (by decide) ?_
    refine rz_pure (pc' := 141) d_M_makesEntry_139 rfl ?_
    refine rz_pure (pc' := 142) d_M_makesEntry_141 rfl ?_
    refine rz_getr d_M_makesEntry_142 f_12_186 rfl rfl ?_
    refine rz_iconst (v := 0) d_M_makesEntry_145 (by decide) ?_
    refine rz_callVi (t := [.int 0, .ref 125, .int a4, .int 7]) d_M_makesEntry_146 w_12_152 rfl rfl rfl (w.1 b1) (fun xq2 Sq2 q2 => ?_)
    refine rz_pure (pc' := 150) (l' := [(1, .int xq2), (0, .ref 116), (2, .int a2), (3, .int a3), (4, .int a4), (5, .int a5)]) d_M_makesEntry_149 rfl ?_
    refine rz_pure (pc' := 151) d_M_makesEntry_150 rfl ?_
    refine rz_ifeq (tgt := 156) d_M_makesEntry_151 rfl (fun b3 => ?_) (fun b3 => ?_)
    · skip
      refine rz_pure (pc' := 157) d_M_makesEntry_156 rfl ?_
      refine rz_pure (pc' := 158) d_M_makesEntry_157 rfl ?_
      refine rz_pure (pc' := 159) d_M_makesEntry_158 rfl ?_
      refine rz_pure (pc' := 160) d_M_makesEntry_159 rfl ?_
      refine rz_getr d_M_makesEntry_160 f_12_186 rfl rfl ?_
      refine rz_iconst (v := 0) d_M_makesEntry_163 (by decide) ?_
      refine rz_callVi (t := [.int 0, .ref 125, .int a3, .int a2]) d_M_makesEntry_164 w_12_148 rfl rfl rfl (q2.1 b3) (fun xq4 Sq4 q4 => ?_)
      refine rz_pure (pc' := 168) (l' := [(1, .int xq4), (0, .ref 116), (2, .int a2), (3, .int a3), (4, .int a4), (5, .int a5)]) d_M_makesEntry_167 rfl ?_
      refine rz_pure (pc' := 169) d_M_makesEntry_168 rfl ?_
      refine rz_ifeq (tgt := 174) d_M_makesEntry_169 rfl (fun b5 => ?_) (fun b5 => ?_)
      · skip
        refine rz_pure (pc' := 175) d_M_makesEntry_174 rfl ?_
        refine rz_getr d_M_makesEntry_175 f_12_186 rfl rfl ?_
        refine rz_iconst (v := 0) d_M_makesEntry_178 (by decide) ?_
        refine rz_bipush (v := 7) d_M_makesEntry_179 (by decide) ?_
        refine rz_iastv (F := Sq4.1 125) (i := 0) d_M_makesEntry_181 rfl (by decide) rfl (by decide) ?_
        refine rz_pure (pc' := 183) d_M_makesEntry_182 rfl ?_
        refine rz_getr d_M_makesEntry_183 f_12_186 rfl rfl ?_
        refine rz_iconst (v := 1) d_M_makesEntry_186 (by decide) ?_
        refine rz_pure (pc' := 189) d_M_makesEntry_187 rfl ?_
        refine rz_iastv (F := upd (Sq4.1 125) 0 7) (i := 1) d_M_makesEntry_189 rfl (by decide) rz_fA_s (by decide) ?_
        refine rz_pure (pc' := 191) d_M_makesEntry_190 rfl ?_
        refine rz_pure (pc' := 192) d_M_makesEntry_191 rfl ?_
        refine rz_pure (pc' := 193) d_M_makesEntry_192 rfl ?_
        refine rz_pure (pc' := 194) d_M_makesEntry_193 rfl ?_
        refine rz_getr d_M_makesEntry_194 f_12_186 rfl rfl ?_
        refine rz_iconst (v := 0) d_M_makesEntry_197 (by decide) ?_
        refine rz_callVi (t := [.int 0, .ref 125, .int a3, .int a2]) d_M_makesEntry_198 w_12_152 rfl rfl rfl (q4.1 b5) (fun xq6 Sq6 q6 => ?_)
        refine rz_pure (pc' := 202) (l' := [(1, .int xq6), (0, .ref 116), (2, .int a2), (3, .int a3), (4, .int a4), (5, .int a5)]) d_M_makesEntry_201 rfl ?_
        refine rz_pure (pc' := 203) d_M_makesEntry_202 rfl ?_
        refine rz_bipush (v := 7) d_M_makesEntry_203 (by decide) ?_
        refine rz_puti d_M_makesEntry_205 f_12_211 rfl rfl rfl ?_
        refine rz_pure (pc' := 209) d_M_makesEntry_208 rfl ?_
        refine rz_pure (pc' := 211) d_M_makesEntry_209 rfl ?_
        refine rz_puti d_M_makesEntry_211 f_12_214 rfl rfl rfl ?_
        refine rz_pure (pc' := 215) d_M_makesEntry_214 rfl ?_
        refine rz_iconst (v := 0) d_M_makesEntry_215 (by decide) ?_
        refine rz_puti d_M_makesEntry_216 f_12_217 rfl rfl rfl ?_
        refine rz_pure (pc' := 220) d_M_makesEntry_219 rfl ?_
        exact rz_ireti d_M_makesEntry_220 rfl rfl q6
      · skip
        refine rz_pure (pc' := 173) d_M_makesEntry_172 rfl ?_
        exact rz_ireti d_M_makesEntry_173 rfl rfl (q4.2 b5)
    · skip
      refine rz_pure (pc' := 155) d_M_makesEntry_154 rfl ?_
      exact rz_ireti d_M_makesEntry_155 rfl rfl (q2.2 b3)
  · skip
    refine rz_pure (pc' := 111) d_M_makesEntry_110 rfl ?_
    refine rz_getr d_M_makesEntry_111 f_12_186 rfl rfl ?_
    refine rz_pure (pc' := 116) d_M_makesEntry_114 rfl ?_
    refine rz_pure (pc' := 118) d_M_makesEntry_116 rfl ?_
    refine rz_iconst (v := 1) d_M_makesEntry_118 (by decide) ?_
    refine rz_icmpne (tgt := 128) d_M_makesEntry_119 rfl (fun b7 => ?_) (fun b7 => ?_)
    · skip
      refine rz_iconst (v := 0) d_M_makesEntry_128 (by decide) ?_
      refine rz_iastv (F := S.1 125) (i := a5.toNatClampNeg) d_M_makesEntry_129 rfl ((w.2 b1).2 b7).1 rfl rfl ?_
      refine rz_pure (pc' := 133) (l' := [(5, .int (a5 + 1)), (0, .ref 116), (2, .int a2), (3, .int a3), (4, .int a4)]) d_M_makesEntry_130 rfl ?_
      refine rz_pure (pc' := 103) d_M_makesEntry_133 rfl ?_
      exact rz_pick (ks := [0, 2, 3, 4, 5]) (l := [(0, .ref 116), (2, .int a2), (3, .int a3), (4, .int a4), (5, .int (a5 + 1))]) rfl rfl (by decide) rfl ((w.2 b1).2 b7).2
    · skip
      refine rz_sipush (v := 255) d_M_makesEntry_122 (by decide) ?_
      refine rz_pure (pc' := 129) d_M_makesEntry_125 rfl ?_
      refine rz_iastv (F := S.1 125) (i := a5.toNatClampNeg) d_M_makesEntry_129 rfl ((w.2 b1).1 b7).1 rfl rfl ?_
      refine rz_pure (pc' := 133) (l' := [(5, .int (a5 + 1)), (0, .ref 116), (2, .int a2), (3, .int a3), (4, .int a4)]) d_M_makesEntry_130 rfl ?_
      refine rz_pure (pc' := 103) d_M_makesEntry_133 rfl ?_
      exact rz_pick (ks := [0, 2, 3, 4, 5]) (l := [(0, .ref 116), (2, .int a2), (3, .int a3), (4, .int a4), (5, .int (a5 + 1))]) rfl rfl (by decide) rfl ((w.2 b1).1 b7).2
theorem d_M_opensNew_0 : decode (rm_code mM_opensNew) 0 = .ok (.aload_n 0, 1) := by decide +kernel
theorem d_M_opensNew_1 : decode (rm_code mM_opensNew) 1 = .ok (.iload_n 2, 1) := by decide +kernel
theorem d_M_opensNew_2 : decode (rm_code mM_opensNew) 2 = .ok (.iload_n 3, 1) := by decide +kernel
theorem d_M_opensNew_3 : decode (rm_code mM_opensNew) 3 = .ok (.invokevirtual 332, 3) := by decide +kernel
theorem d_M_opensNew_6 : decode (rm_code mM_opensNew) 6 = .ok (.ifCond .eq (12), 3) := by decide +kernel
theorem d_M_opensNew_9 : decode (rm_code mM_opensNew) 9 = .ok (.aload_n 0, 1) := by decide +kernel
theorem d_M_opensNew_10 : decode (rm_code mM_opensNew) 10 = .ok (.bipush (33), 2) := by decide +kernel
theorem d_M_opensNew_12 : decode (rm_code mM_opensNew) 12 = .ok (.iconst 0, 1) := by decide +kernel
theorem d_M_opensNew_13 : decode (rm_code mM_opensNew) 13 = .ok (.iconst 0, 1) := by decide +kernel
theorem d_M_opensNew_14 : decode (rm_code mM_opensNew) 14 = .ok (.invokevirtual 113, 3) := by decide +kernel
theorem d_M_opensNew_17 : decode (rm_code mM_opensNew) 17 = .ok (.ireturn, 1) := by decide +kernel
theorem d_M_opensNew_18 : decode (rm_code mM_opensNew) 18 = .ok (.aload_n 0, 1) := by decide +kernel
theorem d_M_opensNew_19 : decode (rm_code mM_opensNew) 19 = .ok (.iconst 1, 1) := by decide +kernel
theorem d_M_opensNew_20 : decode (rm_code mM_opensNew) 20 = .ok (.aload_n 0, 1) := by decide +kernel
theorem d_M_opensNew_21 : decode (rm_code mM_opensNew) 21 = .ok (.getfield 260, 3) := by decide +kernel
theorem d_M_opensNew_24 : decode (rm_code mM_opensNew) 24 = .ok (.iload_n 2, 1) := by decide +kernel
theorem d_M_opensNew_25 : decode (rm_code mM_opensNew) 25 = .ok (.iload_n 3, 1) := by decide +kernel
theorem d_M_opensNew_26 : decode (rm_code mM_opensNew) 26 = .ok (.invokevirtual 325, 3) := by decide +kernel
theorem d_M_opensNew_29 : decode (rm_code mM_opensNew) 29 = .ok (.istore 6, 2) := by decide +kernel
theorem d_M_opensNew_31 : decode (rm_code mM_opensNew) 31 = .ok (.iload 6, 2) := by decide +kernel
theorem d_M_opensNew_33 : decode (rm_code mM_opensNew) 33 = .ok (.ifCond .le (6), 3) := by decide +kernel
theorem d_M_opensNew_36 : decode (rm_code mM_opensNew) 36 = .ok (.iload 6, 2) := by decide +kernel
theorem d_M_opensNew_38 : decode (rm_code mM_opensNew) 38 = .ok (.ireturn, 1) := by decide +kernel
theorem d_M_opensNew_39 : decode (rm_code mM_opensNew) 39 = .ok (.iload 6, 2) := by decide +kernel
theorem d_M_opensNew_41 : decode (rm_code mM_opensNew) 41 = .ok (.ifCond .ne (60), 3) := by decide +kernel
theorem d_M_opensNew_44 : decode (rm_code mM_opensNew) 44 = .ok (.iload 5, 2) := by decide +kernel
theorem d_M_opensNew_46 : decode (rm_code mM_opensNew) 46 = .ok (.ifCond .ne (12), 3) := by decide +kernel
theorem d_M_opensNew_49 : decode (rm_code mM_opensNew) 49 = .ok (.aload_n 0, 1) := by decide +kernel
theorem d_M_opensNew_50 : decode (rm_code mM_opensNew) 50 = .ok (.bipush (63), 2) := by decide +kernel
theorem d_M_opensNew_52 : decode (rm_code mM_opensNew) 52 = .ok (.iconst 0, 1) := by decide +kernel
theorem d_M_opensNew_53 : decode (rm_code mM_opensNew) 53 = .ok (.iconst 0, 1) := by decide +kernel
theorem d_M_opensNew_54 : decode (rm_code mM_opensNew) 54 = .ok (.invokevirtual 113, 3) := by decide +kernel
theorem d_M_opensNew_57 : decode (rm_code mM_opensNew) 57 = .ok (.ireturn, 1) := by decide +kernel
theorem d_M_opensNew_58 : decode (rm_code mM_opensNew) 58 = .ok (.aload_n 0, 1) := by decide +kernel
theorem d_M_opensNew_59 : decode (rm_code mM_opensNew) 59 = .ok (.getfield 195, 3) := by decide +kernel
theorem d_M_opensNew_62 : decode (rm_code mM_opensNew) 62 = .ok (.bipush (16), 2) := by decide +kernel
theorem d_M_opensNew_64 : decode (rm_code mM_opensNew) 64 = .ok (.aload_n 0, 1) := by decide +kernel
theorem d_M_opensNew_65 : decode (rm_code mM_opensNew) 65 = .ok (.getfield 217, 3) := by decide +kernel
theorem d_M_opensNew_68 : decode (rm_code mM_opensNew) 68 = .ok (.imul, 1) := by decide +kernel
theorem d_M_opensNew_69 : decode (rm_code mM_opensNew) 69 = .ok (.iconst 2, 1) := by decide +kernel
theorem d_M_opensNew_70 : decode (rm_code mM_opensNew) 70 = .ok (.iadd, 1) := by decide +kernel
theorem d_M_opensNew_71 : decode (rm_code mM_opensNew) 71 = .ok (.iaload, 1) := by decide +kernel
theorem d_M_opensNew_72 : decode (rm_code mM_opensNew) 72 = .ok (.sipush (128), 3) := by decide +kernel
theorem d_M_opensNew_75 : decode (rm_code mM_opensNew) 75 = .ok (.if_icmp .ge (12), 3) := by decide +kernel
theorem d_M_opensNew_78 : decode (rm_code mM_opensNew) 78 = .ok (.aload_n 0, 1) := by decide +kernel
theorem d_M_opensNew_79 : decode (rm_code mM_opensNew) 79 = .ok (.bipush (60), 2) := by decide +kernel
theorem d_M_opensNew_81 : decode (rm_code mM_opensNew) 81 = .ok (.iconst 0, 1) := by decide +kernel
theorem d_M_opensNew_82 : decode (rm_code mM_opensNew) 82 = .ok (.iconst 0, 1) := by decide +kernel
theorem d_M_opensNew_83 : decode (rm_code mM_opensNew) 83 = .ok (.invokevirtual 113, 3) := by decide +kernel
theorem d_M_opensNew_86 : decode (rm_code mM_opensNew) 86 = .ok (.ireturn, 1) := by decide +kernel
theorem d_M_opensNew_87 : decode (rm_code mM_opensNew) 87 = .ok (.aload_n 0, 1) := by decide +kernel
theorem d_M_opensNew_88 : decode (rm_code mM_opensNew) 88 = .ok (.invokevirtual 335, 3) := by decide +kernel
theorem d_M_opensNew_91 : decode (rm_code mM_opensNew) 91 = .ok (.istore 6, 2) := by decide +kernel
theorem d_M_opensNew_93 : decode (rm_code mM_opensNew) 93 = .ok (.iload 6, 2) := by decide +kernel
theorem d_M_opensNew_95 : decode (rm_code mM_opensNew) 95 = .ok (.ifCond .eq (6), 3) := by decide +kernel
theorem d_M_opensNew_98 : decode (rm_code mM_opensNew) 98 = .ok (.iload 6, 2) := by decide +kernel
theorem d_M_opensNew_100 : decode (rm_code mM_opensNew) 100 = .ok (.ireturn, 1) := by decide +kernel
theorem d_M_opensNew_101 : decode (rm_code mM_opensNew) 101 = .ok (.aload_n 0, 1) := by decide +kernel
theorem d_M_opensNew_102 : decode (rm_code mM_opensNew) 102 = .ok (.invokevirtual 338, 3) := by decide +kernel
theorem d_M_opensNew_105 : decode (rm_code mM_opensNew) 105 = .ok (.istore 6, 2) := by decide +kernel
theorem d_M_opensNew_107 : decode (rm_code mM_opensNew) 107 = .ok (.iload 6, 2) := by decide +kernel
theorem d_M_opensNew_109 : decode (rm_code mM_opensNew) 109 = .ok (.ifCond .eq (6), 3) := by decide +kernel
theorem d_M_opensNew_112 : decode (rm_code mM_opensNew) 112 = .ok (.iload 6, 2) := by decide +kernel
theorem d_M_opensNew_114 : decode (rm_code mM_opensNew) 114 = .ok (.ireturn, 1) := by decide +kernel
theorem d_M_opensNew_115 : decode (rm_code mM_opensNew) 115 = .ok (.aload_n 0, 1) := by decide +kernel
theorem d_M_opensNew_116 : decode (rm_code mM_opensNew) 116 = .ok (.invokevirtual 180, 3) := by decide +kernel
theorem d_M_opensNew_119 : decode (rm_code mM_opensNew) 119 = .ok (.istore 6, 2) := by decide +kernel
theorem d_M_opensNew_121 : decode (rm_code mM_opensNew) 121 = .ok (.iload 6, 2) := by decide +kernel
theorem d_M_opensNew_123 : decode (rm_code mM_opensNew) 123 = .ok (.ifCond .eq (6), 3) := by decide +kernel
theorem d_M_opensNew_126 : decode (rm_code mM_opensNew) 126 = .ok (.iload 6, 2) := by decide +kernel
theorem d_M_opensNew_128 : decode (rm_code mM_opensNew) 128 = .ok (.ireturn, 1) := by decide +kernel
theorem d_M_opensNew_129 : decode (rm_code mM_opensNew) 129 = .ok (.aload_n 0, 1) := by decide +kernel
theorem d_M_opensNew_130 : decode (rm_code mM_opensNew) 130 = .ok (.invokevirtual 177, 3) := by decide +kernel
theorem d_M_opensNew_133 : decode (rm_code mM_opensNew) 133 = .ok (.istore 6, 2) := by decide +kernel
theorem d_M_opensNew_135 : decode (rm_code mM_opensNew) 135 = .ok (.iload 6, 2) := by decide +kernel
theorem d_M_opensNew_137 : decode (rm_code mM_opensNew) 137 = .ok (.ifCond .eq (6), 3) := by decide +kernel
theorem d_M_opensNew_140 : decode (rm_code mM_opensNew) 140 = .ok (.iload 6, 2) := by decide +kernel
theorem d_M_opensNew_142 : decode (rm_code mM_opensNew) 142 = .ok (.ireturn, 1) := by decide +kernel
theorem d_M_opensNew_143 : decode (rm_code mM_opensNew) 143 = .ok (.aload_n 0, 1) := by decide +kernel
theorem d_M_opensNew_144 : decode (rm_code mM_opensNew) 144 = .ok (.invokevirtual 189, 3) := by decide +kernel
theorem d_M_opensNew_147 : decode (rm_code mM_opensNew) 147 = .ok (.istore 6, 2) := by decide +kernel
theorem d_M_opensNew_149 : decode (rm_code mM_opensNew) 149 = .ok (.iload 6, 2) := by decide +kernel
theorem d_M_opensNew_151 : decode (rm_code mM_opensNew) 151 = .ok (.ifCond .eq (6), 3) := by decide +kernel
theorem d_M_opensNew_154 : decode (rm_code mM_opensNew) 154 = .ok (.iload 6, 2) := by decide +kernel
theorem d_M_opensNew_156 : decode (rm_code mM_opensNew) 156 = .ok (.ireturn, 1) := by decide +kernel
theorem d_M_opensNew_157 : decode (rm_code mM_opensNew) 157 = .ok (.aload_n 0, 1) := by decide +kernel
theorem d_M_opensNew_158 : decode (rm_code mM_opensNew) 158 = .ok (.aload_n 0, 1) := by decide +kernel
theorem d_M_opensNew_159 : decode (rm_code mM_opensNew) 159 = .ok (.getfield 211, 3) := by decide +kernel
theorem d_M_opensNew_162 : decode (rm_code mM_opensNew) 162 = .ok (.aload_n 0, 1) := by decide +kernel
theorem d_M_opensNew_163 : decode (rm_code mM_opensNew) 163 = .ok (.getfield 214, 3) := by decide +kernel
theorem d_M_opensNew_166 : decode (rm_code mM_opensNew) 166 = .ok (.aload_n 0, 1) := by decide +kernel
theorem d_M_opensNew_167 : decode (rm_code mM_opensNew) 167 = .ok (.getfield 186, 3) := by decide +kernel
theorem d_M_opensNew_170 : decode (rm_code mM_opensNew) 170 = .ok (.iconst 0, 1) := by decide +kernel
theorem d_M_opensNew_171 : decode (rm_code mM_opensNew) 171 = .ok (.invokevirtual 148, 3) := by decide +kernel
theorem d_M_opensNew_174 : decode (rm_code mM_opensNew) 174 = .ok (.istore 6, 2) := by decide +kernel
theorem d_M_opensNew_176 : decode (rm_code mM_opensNew) 176 = .ok (.iload 6, 2) := by decide +kernel
theorem d_M_opensNew_178 : decode (rm_code mM_opensNew) 178 = .ok (.ifCond .eq (6), 3) := by decide +kernel
theorem d_M_opensNew_181 : decode (rm_code mM_opensNew) 181 = .ok (.iload 6, 2) := by decide +kernel
theorem d_M_opensNew_183 : decode (rm_code mM_opensNew) 183 = .ok (.ireturn, 1) := by decide +kernel
theorem d_M_opensNew_184 : decode (rm_code mM_opensNew) 184 = .ok (.bipush (16), 2) := by decide +kernel
theorem d_M_opensNew_186 : decode (rm_code mM_opensNew) 186 = .ok (.aload_n 0, 1) := by decide +kernel
theorem d_M_opensNew_187 : decode (rm_code mM_opensNew) 187 = .ok (.getfield 217, 3) := by decide +kernel
theorem d_M_opensNew_190 : decode (rm_code mM_opensNew) 190 = .ok (.imul, 1) := by decide +kernel
theorem d_M_opensNew_191 : decode (rm_code mM_opensNew) 191 = .ok (.istore 7, 2) := by decide +kernel
theorem d_M_opensNew_193 : decode (rm_code mM_opensNew) 193 = .ok (.aload_n 0, 1) := by decide +kernel
theorem d_M_opensNew_194 : decode (rm_code mM_opensNew) 194 = .ok (.getfield 186, 3) := by decide +kernel
theorem d_M_opensNew_197 : decode (rm_code mM_opensNew) 197 = .ok (.iload 7, 2) := by decide +kernel
theorem d_M_opensNew_199 : decode (rm_code mM_opensNew) 199 = .ok (.iconst 2, 1) := by decide +kernel
theorem d_M_opensNew_200 : decode (rm_code mM_opensNew) 200 = .ok (.iadd, 1) := by decide +kernel
theorem d_M_opensNew_201 : decode (rm_code mM_opensNew) 201 = .ok (.iload 4, 2) := by decide +kernel
theorem d_M_opensNew_203 : decode (rm_code mM_opensNew) 203 = .ok (.iastore, 1) := by decide +kernel
theorem d_M_opensNew_204 : decode (rm_code mM_opensNew) 204 = .ok (.aload_n 0, 1) := by decide +kernel
theorem d_M_opensNew_205 : decode (rm_code mM_opensNew) 205 = .ok (.getfield 186, 3) := by decide +kernel
theorem d_M_opensNew_208 : decode (rm_code mM_opensNew) 208 = .ok (.iload 7, 2) := by decide +kernel
theorem d_M_opensNew_210 : decode (rm_code mM_opensNew) 210 = .ok (.iconst 3, 1) := by decide +kernel
theorem d_M_opensNew_211 : decode (rm_code mM_opensNew) 211 = .ok (.iadd, 1) := by decide +kernel
theorem d_M_opensNew_212 : decode (rm_code mM_opensNew) 212 = .ok (.aload_n 0, 1) := by decide +kernel
theorem d_M_opensNew_213 : decode (rm_code mM_opensNew) 213 = .ok (.getfield 155, 3) := by decide +kernel
theorem d_M_opensNew_216 : decode (rm_code mM_opensNew) 216 = .ok (.iastore, 1) := by decide +kernel
theorem d_M_opensNew_217 : decode (rm_code mM_opensNew) 217 = .ok (.aload_n 0, 1) := by decide +kernel
theorem d_M_opensNew_218 : decode (rm_code mM_opensNew) 218 = .ok (.getfield 186, 3) := by decide +kernel
theorem d_M_opensNew_221 : decode (rm_code mM_opensNew) 221 = .ok (.iload 7, 2) := by decide +kernel
theorem d_M_opensNew_223 : decode (rm_code mM_opensNew) 223 = .ok (.iconst 4, 1) := by decide +kernel
theorem d_M_opensNew_224 : decode (rm_code mM_opensNew) 224 = .ok (.iadd, 1) := by decide +kernel
theorem d_M_opensNew_225 : decode (rm_code mM_opensNew) 225 = .ok (.aload_n 0, 1) := by decide +kernel
theorem d_M_opensNew_226 : decode (rm_code mM_opensNew) 226 = .ok (.getfield 158, 3) := by decide +kernel
theorem d_M_opensNew_229 : decode (rm_code mM_opensNew) 229 = .ok (.iastore, 1) := by decide +kernel
theorem d_M_opensNew_230 : decode (rm_code mM_opensNew) 230 = .ok (.iconst 0, 1) := by decide +kernel
theorem d_M_opensNew_231 : decode (rm_code mM_opensNew) 231 = .ok (.istore 8, 2) := by decide +kernel
theorem d_M_opensNew_233 : decode (rm_code mM_opensNew) 233 = .ok (.iload 8, 2) := by decide +kernel
theorem d_M_opensNew_235 : decode (rm_code mM_opensNew) 235 = .ok (.bipush (10), 2) := by decide +kernel
theorem d_M_opensNew_237 : decode (rm_code mM_opensNew) 237 = .ok (.if_icmp .ge (42), 3) := by decide +kernel
theorem d_M_opensNew_240 : decode (rm_code mM_opensNew) 240 = .ok (.aload_n 0, 1) := by decide +kernel
theorem d_M_opensNew_241 : decode (rm_code mM_opensNew) 241 = .ok (.getfield 186, 3) := by decide +kernel
theorem d_M_opensNew_244 : decode (rm_code mM_opensNew) 244 = .ok (.iload 7, 2) := by decide +kernel
theorem d_M_opensNew_246 : decode (rm_code mM_opensNew) 246 = .ok (.iconst 5, 1) := by decide +kernel
theorem d_M_opensNew_247 : decode (rm_code mM_opensNew) 247 = .ok (.iadd, 1) := by decide +kernel
theorem d_M_opensNew_248 : decode (rm_code mM_opensNew) 248 = .ok (.iload 8, 2) := by decide +kernel
theorem d_M_opensNew_250 : decode (rm_code mM_opensNew) 250 = .ok (.iadd, 1) := by decide +kernel
theorem d_M_opensNew_251 : decode (rm_code mM_opensNew) 251 = .ok (.iload 8, 2) := by decide +kernel
theorem d_M_opensNew_253 : decode (rm_code mM_opensNew) 253 = .ok (.iload_n 3, 1) := by decide +kernel
theorem d_M_opensNew_254 : decode (rm_code mM_opensNew) 254 = .ok (.if_icmp .ge (15), 3) := by decide +kernel
theorem d_M_opensNew_257 : decode (rm_code mM_opensNew) 257 = .ok (.aload_n 0, 1) := by decide +kernel
theorem d_M_opensNew_258 : decode (rm_code mM_opensNew) 258 = .ok (.getfield 260, 3) := by decide +kernel
theorem d_M_opensNew_261 : decode (rm_code mM_opensNew) 261 = .ok (.iload_n 2, 1) := by decide +kernel
theorem d_M_opensNew_262 : decode (rm_code mM_opensNew) 262 = .ok (.iload 8, 2) := by decide +kernel
theorem d_M_opensNew_264 : decode (rm_code mM_opensNew) 264 = .ok (.iadd, 1) := by decide +kernel
theorem d_M_opensNew_265 : decode (rm_code mM_opensNew) 265 = .ok (.iaload, 1) := by decide +kernel
theorem d_M_opensNew_266 : decode (rm_code mM_opensNew) 266 = .ok (.goto (6), 3) := by decide +kernel
theorem d_M_opensNew_269 : decode (rm_code mM_opensNew) 269 = .ok (.sipush (160), 3) := by decide +kernel
theorem d_M_opensNew_272 : decode (rm_code mM_opensNew) 272 = .ok (.iastore, 1) := by decide +kernel
theorem d_M_opensNew_273 : decode (rm_code mM_opensNew) 273 = .ok (.iinc 8 (1), 3) := by decide +kernel
theorem d_M_opensNew_276 : decode (rm_code mM_opensNew) 276 = .ok (.goto (-43), 3) := by decide +kernel
theorem d_M_opensNew_279 : decode (rm_code mM_opensNew) 279 = .ok (.aload_n 0, 1) := by decide +kernel
theorem d_M_opensNew_280 : decode (rm_code mM_opensNew) 280 = .ok (.getfield 186, 3) := by decide +kernel
theorem d_M_opensNew_283 : decode (rm_code mM_opensNew) 283 = .ok (.iload 7, 2) := by decide +kernel
theorem d_M_opensNew_285 : decode (rm_code mM_opensNew) 285 = .ok (.bipush (15), 2) := by decide +kernel
theorem d_M_opensNew_287 : decode (rm_code mM_opensNew) 287 = .ok (.iadd, 1) := by decide +kernel
theorem d_M_opensNew_288 : decode (rm_code mM_opensNew) 288 = .ok (.iconst 0, 1) := by decide +kernel
theorem d_M_opensNew_289 : decode (rm_code mM_opensNew) 289 = .ok (.iastore, 1) := by decide +kernel
theorem d_M_opensNew_290 : decode (rm_code mM_opensNew) 290 = .ok (.aload_n 0, 1) := by decide +kernel
theorem d_M_opensNew_291 : decode (rm_code mM_opensNew) 291 = .ok (.aload_n 0, 1) := by decide +kernel
theorem d_M_opensNew_292 : decode (rm_code mM_opensNew) 292 = .ok (.getfield 211, 3) := by decide +kernel
theorem d_M_opensNew_295 : decode (rm_code mM_opensNew) 295 = .ok (.aload_n 0, 1) := by decide +kernel
theorem d_M_opensNew_296 : decode (rm_code mM_opensNew) 296 = .ok (.getfield 214, 3) := by decide +kernel
theorem d_M_opensNew_299 : decode (rm_code mM_opensNew) 299 = .ok (.aload_n 0, 1) := by decide +kernel
theorem d_M_opensNew_300 : decode (rm_code mM_opensNew) 300 = .ok (.getfield 186, 3) := by decide +kernel
theorem d_M_opensNew_303 : decode (rm_code mM_opensNew) 303 = .ok (.iconst 0, 1) := by decide +kernel
theorem d_M_opensNew_304 : decode (rm_code mM_opensNew) 304 = .ok (.invokevirtual 152, 3) := by decide +kernel
theorem d_M_opensNew_307 : decode (rm_code mM_opensNew) 307 = .ok (.istore 6, 2) := by decide +kernel
theorem d_M_opensNew_309 : decode (rm_code mM_opensNew) 309 = .ok (.iload 6, 2) := by decide +kernel
theorem d_M_opensNew_311 : decode (rm_code mM_opensNew) 311 = .ok (.ifCond .eq (6), 3) := by decide +kernel
theorem d_M_opensNew_314 : decode (rm_code mM_opensNew) 314 = .ok (.iload 6, 2) := by decide +kernel
theorem d_M_opensNew_316 : decode (rm_code mM_opensNew) 316 = .ok (.ireturn, 1) := by decide +kernel
theorem d_M_opensNew_317 : decode (rm_code mM_opensNew) 317 = .ok (.aload_n 0, 1) := by decide +kernel
theorem d_M_opensNew_318 : decode (rm_code mM_opensNew) 318 = .ok (.getfield 341, 3) := by decide +kernel
theorem d_M_opensNew_321 : decode (rm_code mM_opensNew) 321 = .ok (.iload_n 1, 1) := by decide +kernel
theorem d_M_opensNew_322 : decode (rm_code mM_opensNew) 322 = .ok (.aload_n 0, 1) := by decide +kernel
theorem d_M_opensNew_323 : decode (rm_code mM_opensNew) 323 = .ok (.getfield 155, 3) := by decide +kernel
theorem d_M_opensNew_326 : decode (rm_code mM_opensNew) 326 = .ok (.iastore, 1) := by decide +kernel
theorem d_M_opensNew_327 : decode (rm_code mM_opensNew) 327 = .ok (.aload_n 0, 1) := by decide +kernel
theorem d_M_opensNew_328 : decode (rm_code mM_opensNew) 328 = .ok (.getfield 344, 3) := by decide +kernel
theorem d_M_opensNew_331 : decode (rm_code mM_opensNew) 331 = .ok (.iload_n 1, 1) := by decide +kernel
theorem d_M_opensNew_332 : decode (rm_code mM_opensNew) 332 = .ok (.aload_n 0, 1) := by decide +kernel
theorem d_M_opensNew_333 : decode (rm_code mM_opensNew) 333 = .ok (.getfield 158, 3) := by decide +kernel
theorem d_M_opensNew_336 : decode (rm_code mM_opensNew) 336 = .ok (.iastore, 1) := by decide +kernel
theorem d_M_opensNew_337 : decode (rm_code mM_opensNew) 337 = .ok (.aload_n 0, 1) := by decide +kernel
theorem d_M_opensNew_338 : decode (rm_code mM_opensNew) 338 = .ok (.getfield 347, 3) := by decide +kernel
theorem d_M_opensNew_341 : decode (rm_code mM_opensNew) 341 = .ok (.iload_n 1, 1) := by decide +kernel
theorem d_M_opensNew_342 : decode (rm_code mM_opensNew) 342 = .ok (.aload_n 0, 1) := by decide +kernel
theorem d_M_opensNew_343 : decode (rm_code mM_opensNew) 343 = .ok (.getfield 155, 3) := by decide +kernel
theorem d_M_opensNew_346 : decode (rm_code mM_opensNew) 346 = .ok (.iastore, 1) := by decide +kernel
theorem d_M_opensNew_347 : decode (rm_code mM_opensNew) 347 = .ok (.aload_n 0, 1) := by decide +kernel
theorem d_M_opensNew_348 : decode (rm_code mM_opensNew) 348 = .ok (.getfield 350, 3) := by decide +kernel
theorem d_M_opensNew_351 : decode (rm_code mM_opensNew) 351 = .ok (.iload_n 1, 1) := by decide +kernel
theorem d_M_opensNew_352 : decode (rm_code mM_opensNew) 352 = .ok (.aload_n 0, 1) := by decide +kernel
theorem d_M_opensNew_353 : decode (rm_code mM_opensNew) 353 = .ok (.getfield 158, 3) := by decide +kernel
theorem d_M_opensNew_356 : decode (rm_code mM_opensNew) 356 = .ok (.iastore, 1) := by decide +kernel
theorem d_M_opensNew_357 : decode (rm_code mM_opensNew) 357 = .ok (.aload_n 0, 1) := by decide +kernel
theorem d_M_opensNew_358 : decode (rm_code mM_opensNew) 358 = .ok (.getfield 353, 3) := by decide +kernel
theorem d_M_opensNew_361 : decode (rm_code mM_opensNew) 361 = .ok (.iload_n 1, 1) := by decide +kernel
theorem d_M_opensNew_362 : decode (rm_code mM_opensNew) 362 = .ok (.iconst 1, 1) := by decide +kernel
theorem d_M_opensNew_363 : decode (rm_code mM_opensNew) 363 = .ok (.iastore, 1) := by decide +kernel
theorem d_M_opensNew_364 : decode (rm_code mM_opensNew) 364 = .ok (.aload_n 0, 1) := by decide +kernel
theorem d_M_opensNew_365 : decode (rm_code mM_opensNew) 365 = .ok (.getfield 356, 3) := by decide +kernel
theorem d_M_opensNew_368 : decode (rm_code mM_opensNew) 368 = .ok (.iload_n 1, 1) := by decide +kernel
theorem d_M_opensNew_369 : decode (rm_code mM_opensNew) 369 = .ok (.aload_n 0, 1) := by decide +kernel
theorem d_M_opensNew_370 : decode (rm_code mM_opensNew) 370 = .ok (.getfield 211, 3) := by decide +kernel
theorem d_M_opensNew_373 : decode (rm_code mM_opensNew) 373 = .ok (.iastore, 1) := by decide +kernel
theorem d_M_opensNew_374 : decode (rm_code mM_opensNew) 374 = .ok (.aload_n 0, 1) := by decide +kernel
theorem d_M_opensNew_375 : decode (rm_code mM_opensNew) 375 = .ok (.getfield 359, 3) := by decide +kernel
theorem d_M_opensNew_378 : decode (rm_code mM_opensNew) 378 = .ok (.iload_n 1, 1) := by decide +kernel
theorem d_M_opensNew_379 : decode (rm_code mM_opensNew) 379 = .ok (.aload_n 0, 1) := by decide +kernel
theorem d_M_opensNew_380 : decode (rm_code mM_opensNew) 380 = .ok (.getfield 214, 3) := by decide +kernel
theorem d_M_opensNew_383 : decode (rm_code mM_opensNew) 383 = .ok (.iastore, 1) := by decide +kernel
theorem d_M_opensNew_384 : decode (rm_code mM_opensNew) 384 = .ok (.aload_n 0, 1) := by decide +kernel
theorem d_M_opensNew_385 : decode (rm_code mM_opensNew) 385 = .ok (.getfield 362, 3) := by decide +kernel
theorem d_M_opensNew_388 : decode (rm_code mM_opensNew) 388 = .ok (.iload_n 1, 1) := by decide +kernel
theorem d_M_opensNew_389 : decode (rm_code mM_opensNew) 389 = .ok (.aload_n 0, 1) := by decide +kernel
theorem d_M_opensNew_390 : decode (rm_code mM_opensNew) 390 = .ok (.getfield 217, 3) := by decide +kernel
theorem d_M_opensNew_393 : decode (rm_code mM_opensNew) 393 = .ok (.iastore, 1) := by decide +kernel
theorem d_M_opensNew_394 : decode (rm_code mM_opensNew) 394 = .ok (.aload_n 0, 1) := by decide +kernel
theorem d_M_opensNew_395 : decode (rm_code mM_opensNew) 395 = .ok (.iload_n 1, 1) := by decide +kernel
theorem d_M_opensNew_396 : decode (rm_code mM_opensNew) 396 = .ok (.invokevirtual 365, 3) := by decide +kernel
theorem d_M_opensNew_399 : decode (rm_code mM_opensNew) 399 = .ok (.aload_n 0, 1) := by decide +kernel
theorem d_M_opensNew_400 : decode (rm_code mM_opensNew) 400 = .ok (.getfield 248, 3) := by decide +kernel
theorem d_M_opensNew_403 : decode (rm_code mM_opensNew) 403 = .ok (.iload_n 1, 1) := by decide +kernel
theorem d_M_opensNew_404 : decode (rm_code mM_opensNew) 404 = .ok (.iconst 2, 1) := by decide +kernel
theorem d_M_opensNew_405 : decode (rm_code mM_opensNew) 405 = .ok (.iastore, 1) := by decide +kernel
theorem d_M_opensNew_406 : decode (rm_code mM_opensNew) 406 = .ok (.iconst 0, 1) := by decide +kernel
theorem d_M_opensNew_407 : decode (rm_code mM_opensNew) 407 = .ok (.ireturn, 1) := by decide +kernel
theorem p_M_opensNew_0 {S : rz_S} {K : Int32 → rz_S → Prop} {a1 : Int32} {a2 : Int32} {a3 : Int32} {a4 : Int32} {a5 : Int32} (w : rz_ev mM_isWild [.ref 116, .int a2, .int a3] S (rz_i (fun xq1 Sq1 => ((xq1 = 0 → rz_ev mM_finds [.ref 116, .int 1, .ref 151, .int a2, .int a3] Sq1 (rz_i (fun xq3 Sq3 => ((xq3 ≤ 0 → ((xq3 = 0 → ((a5 = 0 → rz_ev mM_fault [.ref 116, .int 63, .int 0, .int 0] Sq3 (rz_i (fun xq11 Sq11 => K xq11 Sq11))) ∧ (¬ a5 = 0 → rx_in ((16 * (Sq3.2 116 29)) + 2) 64 = true ∧ ((128 ≤ Sq3.1 124 (((16 * (Sq3.2 116 29)) + 2).toNatClampNeg) → rz_ev mM_scratches [.ref 116] Sq3 (rz_i (fun xq8 Sq8 => ((xq8 = 0 → rz mM_opensNew 101 [(0, .ref 116), (1, .int a1), (2, .int a2), (3, .int a3), (4, .int a4)] [] Sq8 (rz_i K)) ∧ (¬ xq8 = 0 → K xq8 Sq8))))) ∧ (¬ 128 ≤ Sq3.1 124 (((16 * (Sq3.2 116 29)) + 2).toNatClampNeg) → rz_ev mM_fault [.ref 116, .int 60, .int 0, .int 0] Sq3 (rz_i (fun xq10 Sq10 => K xq10 Sq10))))))) ∧ (¬ xq3 = 0 → rz mM_opensNew 101 [(0, .ref 116), (1, .int a1), (2, .int a2), (3, .int a3), (4, .int a4)] [] Sq3 (rz_i K)))) ∧ (¬ xq3 ≤ 0 → K xq3 Sq3))))) ∧ (¬ xq1 = 0 → rz_ev mM_fault [.ref 116, .int 33, .int 0, .int 0] Sq1 (rz_i (fun xq12 Sq12 => K xq12 Sq12))))))) : rz mM_opensNew 0 [(0, .ref 116), (1, .int a1), (2, .int a2), (3, .int a3), (4, .int a4), (5, .int a5)] [] S (rz_i K) := by
  refine rz_pure (pc' := 1) d_M_opensNew_0 rfl ?_
  refine rz_pure (pc' := 2) d_M_opensNew_1 rfl ?_
  refine rz_pure (pc' := 3) d_M_opensNew_2 rfl ?_
  refine rz_callVi (t := [.int a3, .int a2]) d_M_opensNew_3 w_12_332 rfl rfl rfl w (fun xq1 Sq1 q1 => ?_)
  refine rz_ifeq (tgt := 18) d_M_opensNew_6 rfl (fun b2 => ?_) (fun b2 => ?_)
  · skip
    refine rz_pure (pc' := 19) d_M_opensNew_18 rfl ?_
    refine rz_iconst (v := 1) d_M_opensNew_19 (by decide) ?_
    refine rz_pure (pc' := 21) d_M_opensNew_20 rfl ?_
    refine rz_getr d_M_opensNew_21 f_12_260 rfl rfl ?_
    refine rz_pure (pc' := 25) d_M_opensNew_24 rfl ?_
    refine rz_pure (pc' := 26) d_M_opensNew_25 rfl ?_
    refine rz_callVi (t := [.int a3, .int a2, .ref 151, .int 1]) d_M_opensNew_26 w_12_325 rfl rfl rfl (q1.1 b2) (fun xq3 Sq3 q3 => ?_)
    refine rz_pure (pc' := 31) (l' := [(6, .int xq3), (0, .ref 116), (1, .int a1), (2, .int a2), (3, .int a3), (4, .int a4), (5, .int a5)]) d_M_opensNew_29 rfl ?_
    refine rz_pure (pc' := 33) d_M_opensNew_31 rfl ?_
    refine rz_ifle (tgt := 39) d_M_opensNew_33 rfl (fun b4 => ?_) (fun b4 => ?_)
    · skip
      refine rz_pure (pc' := 41) d_M_opensNew_39 rfl ?_
      refine rz_ifne (tgt := 101) d_M_opensNew_41 rfl (fun b5 => ?_) (fun b5 => ?_)
      · skip
        exact rz_pick (ks := [0, 1, 2, 3, 4]) (l := [(0, .ref 116), (1, .int a1), (2, .int a2), (3, .int a3), (4, .int a4)]) rfl rfl (by decide) rfl ((q3.1 b4).2 b5)
      · skip
        refine rz_pure (pc' := 46) d_M_opensNew_44 rfl ?_
        refine rz_ifne (tgt := 58) d_M_opensNew_46 rfl (fun b6 => ?_) (fun b6 => ?_)
        · skip
          refine rz_pure (pc' := 59) d_M_opensNew_58 rfl ?_
          refine rz_getr d_M_opensNew_59 f_12_195 rfl rfl ?_
          refine rz_bipush (v := 16) d_M_opensNew_62 (by decide) ?_
          refine rz_pure (pc' := 65) d_M_opensNew_64 rfl ?_
          refine rz_getiv (v := Sq3.2 116 29) d_M_opensNew_65 f_12_217 rfl rfl rfl ?_
          refine rz_imul d_M_opensNew_68 ?_
          refine rz_iconst (v := 2) d_M_opensNew_69 (by decide) ?_
          refine rz_iadd d_M_opensNew_70 ?_
          refine rz_ialdv (F := Sq3.1 124) (i := ((16 * (Sq3.2 116 29)) + 2).toNatClampNeg) d_M_opensNew_71 rfl (((q3.1 b4).1 b5).2 b6).1 rfl rfl ?_
          refine rz_sipush (v := 128) d_M_opensNew_72 (by decide) ?_
          refine rz_icmpge (tgt := 87) d_M_opensNew_75 rfl (fun b7 => ?_) (fun b7 => ?_)
          · skip
            refine rz_pure (pc' := 88) d_M_opensNew_87 rfl ?_
            refine rz_callVi (t := []) d_M_opensNew_88 w_12_335 rfl rfl rfl ((((q3.1 b4).1 b5).2 b6).2.1 b7) (fun xq8 Sq8 q8 => ?_)
            refine rz_pure (pc' := 93) (l' := [(6, .int xq8), (0, .ref 116), (1, .int a1), (2, .int a2), (3, .int a3), (4, .int a4), (5, .int a5)]) d_M_opensNew_91 rfl ?_
            refine rz_pure (pc' := 95) d_M_opensNew_93 rfl ?_
            refine rz_ifeq (tgt := 101) d_M_opensNew_95 rfl (fun b9 => ?_) (fun b9 => ?_)
            · skip
              exact rz_pick (ks := [0, 1, 2, 3, 4]) (l := [(0, .ref 116), (1, .int a1), (2, .int a2), (3, .int a3), (4, .int a4)]) rfl rfl (by decide) rfl (q8.1 b9)
            · skip
              refine rz_pure (pc' := 100) d_M_opensNew_98 rfl ?_
              exact rz_ireti d_M_opensNew_100 rfl rfl (q8.2 b9)
          · skip
            refine rz_pure (pc' := 79) d_M_opensNew_78 rfl ?_
            refine rz_bipush (v := 60) d_M_opensNew_79 (by decide) ?_
            refine rz_iconst (v := 0) d_M_opensNew_81 (by decide) ?_
            refine rz_iconst (v := 0) d_M_opensNew_82 (by decide) ?_
            refine rz_callVi (t := [.int 0, .int 0, .int 60]) d_M_opensNew_83 w_12_113 rfl rfl rfl ((((q3.1 b4).1 b5).2 b6).2.2 b7) (fun xq10 Sq10 q10 => ?_)
            exact rz_ireti d_M_opensNew_86 rfl rfl q10
        · skip
          refine rz_pure (pc' := 50) d_M_opensNew_49 rfl ?_
          refine rz_bipush (v := 63) d_M_opensNew_50 (by decide) ?_
          refine rz_iconst (v := 0) d_M_opensNew_52 (by decide) ?_
          refine rz_iconst (v := 0) d_M_opensNew_53 (by decide) ?_
          refine rz_callVi (t := [.int 0, .int 0, .int 63]) d_M_opensNew_54 w_12_113 rfl rfl rfl (((q3.1 b4).1 b5).1 b6) (fun xq11 Sq11 q11 => ?_)
          exact rz_ireti d_M_opensNew_57 rfl rfl q11
    · skip
      refine rz_pure (pc' := 38) d_M_opensNew_36 rfl ?_
      exact rz_ireti d_M_opensNew_38 rfl rfl (q3.2 b4)
  · skip
    refine rz_pure (pc' := 10) d_M_opensNew_9 rfl ?_
    refine rz_bipush (v := 33) d_M_opensNew_10 (by decide) ?_
    refine rz_iconst (v := 0) d_M_opensNew_12 (by decide) ?_
    refine rz_iconst (v := 0) d_M_opensNew_13 (by decide) ?_
    refine rz_callVi (t := [.int 0, .int 0, .int 33]) d_M_opensNew_14 w_12_113 rfl rfl rfl (q1.2 b2) (fun xq12 Sq12 q12 => ?_)
    exact rz_ireti d_M_opensNew_17 rfl rfl q12
theorem p_M_opensNew_101 {S : rz_S} {K : Int32 → rz_S → Prop} {a1 : Int32} {a2 : Int32} {a3 : Int32} {a4 : Int32} (w : rz_ev mM_makesEntry [.ref 116] S (rz_i (fun xq1 Sq1 => ((xq1 = 0 → rz_ev mM_loads [.ref 116] Sq1 (rz_i (fun xq3 Sq3 => ((xq3 = 0 → rz_ev mM_takesOne [.ref 116] Sq3 (rz_i (fun xq5 Sq5 => ((xq5 = 0 → rz_ev mM_stores [.ref 116] Sq5 (rz_i (fun xq7 Sq7 => ((xq7 = 0 → rz_ev mM_readBlock [.ref 116, .int (Sq7.2 116 27), .int (Sq7.2 116 28), .ref 125, .int 0] Sq7 (rz_i (fun xq9 Sq9 => ((xq9 = 0 → rx_in ((16 * (Sq9.2 116 29)) + 2) 64 = true ∧ rx_in ((16 * (Sq9.2 116 29)) + 3) 64 = true ∧ rx_in ((16 * (Sq9.2 116 29)) + 4) 64 = true ∧ rz mM_opensNew 233 [(0, .ref 116), (1, .int a1), (2, .int a2), (3, .int a3), (7, .int (16 * (Sq9.2 116 29))), (8, .int 0)] [] (rz_fA (rz_fA (rz_fA Sq9 125 (upd (Sq9.1 125) (((16 * (Sq9.2 116 29)) + 2).toNatClampNeg) a4)) 125 (upd (upd (Sq9.1 125) (((16 * (Sq9.2 116 29)) + 2).toNatClampNeg) a4) (((16 * (Sq9.2 116 29)) + 3).toNatClampNeg) (Sq9.2 116 25))) 125 (upd (upd (upd (Sq9.1 125) (((16 * (Sq9.2 116 29)) + 2).toNatClampNeg) a4) (((16 * (Sq9.2 116 29)) + 3).toNatClampNeg) (Sq9.2 116 25)) (((16 * (Sq9.2 116 29)) + 4).toNatClampNeg) (Sq9.2 116 26))) (rz_i K)) ∧ (¬ xq9 = 0 → K xq9 Sq9))))) ∧ (¬ xq7 = 0 → K xq7 Sq7))))) ∧ (¬ xq5 = 0 → K xq5 Sq5))))) ∧ (¬ xq3 = 0 → K xq3 Sq3))))) ∧ (¬ xq1 = 0 → K xq1 Sq1))))) : rz mM_opensNew 101 [(0, .ref 116), (1, .int a1), (2, .int a2), (3, .int a3), (4, .int a4)] [] S (rz_i K) := by
  refine rz_pure (pc' := 102) d_M_opensNew_101 rfl ?_
  refine rz_callVi (t := []) d_M_opensNew_102 w_12_338 rfl rfl rfl w (fun xq1 Sq1 q1 => ?_)
  refine rz_pure (pc' := 107) (l' := [(6, .int xq1), (0, .ref 116), (1, .int a1), (2, .int a2), (3, .int a3), (4, .int a4)]) d_M_opensNew_105 rfl ?_
  refine rz_pure (pc' := 109) d_M_opensNew_107 rfl ?_
  refine rz_ifeq (tgt := 115) d_M_opensNew_109 rfl (fun b2 => ?_) (fun b2 => ?_)
  · skip
    refine rz_pure (pc' := 116) d_M_opensNew_115 rfl ?_
    refine rz_callVi (t := []) d_M_opensNew_116 w_12_180 rfl rfl rfl (q1.1 b2) (fun xq3 Sq3 q3 => ?_)
    refine rz_pure (pc' := 121) (l' := [(6, .int xq3), (0, .ref 116), (1, .int a1), (2, .int a2), (3, .int a3), (4, .int a4)]) d_M_opensNew_119 rfl ?_
    refine rz_pure (pc' := 123) d_M_opensNew_121 rfl ?_
    refine rz_ifeq (tgt := 129) d_M_opensNew_123 rfl (fun b4 => ?_) (fun b4 => ?_)
    · skip
      refine rz_pure (pc' := 130) d_M_opensNew_129 rfl ?_
      refine rz_callVi (t := []) d_M_opensNew_130 w_12_177 rfl rfl rfl (q3.1 b4) (fun xq5 Sq5 q5 => ?_)
      refine rz_pure (pc' := 135) (l' := [(6, .int xq5), (0, .ref 116), (1, .int a1), (2, .int a2), (3, .int a3), (4, .int a4)]) d_M_opensNew_133 rfl ?_
      refine rz_pure (pc' := 137) d_M_opensNew_135 rfl ?_
      refine rz_ifeq (tgt := 143) d_M_opensNew_137 rfl (fun b6 => ?_) (fun b6 => ?_)
      · skip
        refine rz_pure (pc' := 144) d_M_opensNew_143 rfl ?_
        refine rz_callVi (t := []) d_M_opensNew_144 w_12_189 rfl rfl rfl (q5.1 b6) (fun xq7 Sq7 q7 => ?_)
        refine rz_pure (pc' := 149) (l' := [(6, .int xq7), (0, .ref 116), (1, .int a1), (2, .int a2), (3, .int a3), (4, .int a4)]) d_M_opensNew_147 rfl ?_
        refine rz_pure (pc' := 151) d_M_opensNew_149 rfl ?_
        refine rz_ifeq (tgt := 157) d_M_opensNew_151 rfl (fun b8 => ?_) (fun b8 => ?_)
        · skip
          refine rz_pure (pc' := 158) d_M_opensNew_157 rfl ?_
          refine rz_pure (pc' := 159) d_M_opensNew_158 rfl ?_
          refine rz_getiv (v := Sq7.2 116 27) d_M_opensNew_159 f_12_211 rfl rfl rfl ?_
          refine rz_pure (pc' := 163) d_M_opensNew_162 rfl ?_
          refine rz_getiv (v := Sq7.2 116 28) d_M_opensNew_163 f_12_214 rfl rfl rfl ?_
          refine rz_pure (pc' := 167) d_M_opensNew_166 rfl ?_
          refine rz_getr d_M_opensNew_167 f_12_186 rfl rfl ?_
          refine rz_iconst (v := 0) d_M_opensNew_170 (by decide) ?_
          refine rz_callVi (t := [.int 0, .ref 125, .int (Sq7.2 116 28), .int (Sq7.2 116 27)]) d_M_opensNew_171 w_12_148 rfl rfl rfl (q7.1 b8) (fun xq9 Sq9 q9 => ?_)
          refine rz_pure (pc' := 176) (l' := [(6, .int xq9), (0, .ref 116), (1, .int a1), (2, .int a2), (3, .int a3), (4, .int a4)]) d_M_opensNew_174 rfl ?_
          refine rz_pure (pc' := 178) d_M_opensNew_176 rfl ?_
          refine rz_ifeq (tgt := 184) d_M_opensNew_178 rfl (fun b10 => ?_) (fun b10 => ?_)
          · skip
            refine rz_bipush (v := 16) d_M_opensNew_184 (by decide) ?_
            refine rz_pure (pc' := 187) d_M_opensNew_186 rfl ?_
            refine rz_getiv (v := Sq9.2 116 29) d_M_opensNew_187 f_12_217 rfl rfl rfl ?_
            refine rz_imul d_M_opensNew_190 ?_
            refine rz_pure (pc' := 193) (l' := [(7, .int (16 * (Sq9.2 116 29))), (6, .int xq9), (0, .ref 116), (1, .int a1), (2, .int a2), (3, .int a3), (4, .int a4)]) d_M_opensNew_191 rfl ?_
            refine rz_pure (pc' := 194) d_M_opensNew_193 rfl ?_
            refine rz_getr d_M_opensNew_194 f_12_186 rfl rfl ?_
            refine rz_pure (pc' := 199) d_M_opensNew_197 rfl ?_
            refine rz_iconst (v := 2) d_M_opensNew_199 (by decide) ?_
            refine rz_iadd d_M_opensNew_200 ?_
            refine rz_pure (pc' := 203) d_M_opensNew_201 rfl ?_
            refine rz_iastv (F := Sq9.1 125) (i := ((16 * (Sq9.2 116 29)) + 2).toNatClampNeg) d_M_opensNew_203 rfl (q9.1 b10).1 rfl rfl ?_
            refine rz_pure (pc' := 205) d_M_opensNew_204 rfl ?_
            refine rz_getr d_M_opensNew_205 f_12_186 rfl rfl ?_
            refine rz_pure (pc' := 210) d_M_opensNew_208 rfl ?_
            refine rz_iconst (v := 3) d_M_opensNew_210 (by decide) ?_
            refine rz_iadd d_M_opensNew_211 ?_
            refine rz_pure (pc' := 213) d_M_opensNew_212 rfl ?_
            refine rz_getiv (v := Sq9.2 116 25) d_M_opensNew_213 f_12_155 rfl rfl rfl ?_
            refine rz_iastv (F := upd (Sq9.1 125) (((16 * (Sq9.2 116 29)) + 2).toNatClampNeg) a4) (i := ((16 * (Sq9.2 116 29)) + 3).toNatClampNeg) d_M_opensNew_216 rfl (q9.1 b10).2.1 rz_fA_s rfl ?_
            refine rz_pure (pc' := 218) d_M_opensNew_217 rfl ?_
            refine rz_getr d_M_opensNew_218 f_12_186 rfl rfl ?_
            refine rz_pure (pc' := 223) d_M_opensNew_221 rfl ?_
            refine rz_iconst (v := 4) d_M_opensNew_223 (by decide) ?_
            refine rz_iadd d_M_opensNew_224 ?_
            refine rz_pure (pc' := 226) d_M_opensNew_225 rfl ?_
            refine rz_getiv (v := Sq9.2 116 26) d_M_opensNew_226 f_12_158 rfl rfl rfl ?_
            refine rz_iastv (F := upd (upd (Sq9.1 125) (((16 * (Sq9.2 116 29)) + 2).toNatClampNeg) a4) (((16 * (Sq9.2 116 29)) + 3).toNatClampNeg) (Sq9.2 116 25)) (i := ((16 * (Sq9.2 116 29)) + 4).toNatClampNeg) d_M_opensNew_229 rfl (q9.1 b10).2.2.1 rz_fA_s rfl ?_
            refine rz_iconst (v := 0) d_M_opensNew_230 (by decide) ?_
            refine rz_pure (pc' := 233) (l' := [(8, .int 0), (7, .int (16 * (Sq9.2 116 29))), (6, .int xq9), (0, .ref 116), (1, .int a1), (2, .int a2), (3, .int a3), (4, .int a4)]) d_M_opensNew_231 rfl ?_
            exact rz_pick (ks := [0, 1, 2, 3, 7, 8]) (l := [(0, .ref 116), (1, .int a1), (2, .int a2), (3, .int a3), (7, .int (16 * (Sq9.2 116 29))), (8, .int 0)]) rfl rfl (by decide) rfl (q9.1 b10).2.2.2
          · skip
            refine rz_pure (pc' := 183) d_M_opensNew_181 rfl ?_
            exact rz_ireti d_M_opensNew_183 rfl rfl (q9.2 b10)
        · skip
          refine rz_pure (pc' := 156) d_M_opensNew_154 rfl ?_
          exact rz_ireti d_M_opensNew_156 rfl rfl (q7.2 b8)
      · skip
        refine rz_pure (pc' := 142) d_M_opensNew_140 rfl ?_
        exact rz_ireti d_M_opensNew_142 rfl rfl (q5.2 b6)
    · skip
      refine rz_pure (pc' := 128) d_M_opensNew_126 rfl ?_
      exact rz_ireti d_M_opensNew_128 rfl rfl (q3.2 b4)
  · skip
    refine rz_pure (pc' := 114) d_M_opensNew_112 rfl ?_
    exact rz_ireti d_M_opensNew_114 rfl rfl (q1.2 b2)
theorem p_M_opensNew_233 {S : rz_S} {K : Int32 → rz_S → Prop} {a1 : Int32} {a2 : Int32} {a3 : Int32} {a7 : Int32} {a8 : Int32} (w : ((10 ≤ a8 → rx_in (a7 + 15) 64 = true ∧ rz_ev mM_writeBlock [.ref 116, .int (S.2 116 27), .int (S.2 116 28), .ref 125, .int 0] (rz_fA S 125 (upd (S.1 125) ((a7 + 15).toNatClampNeg) 0)) (rz_i (fun xq2 Sq2 => ((xq2 = 0 → rx_in a1 15 = true ∧ rz_ev mM_clears [.ref 116, .int a1] (rz_fA (rz_fA (rz_fA (rz_fA (rz_fA (rz_fA (rz_fA (rz_fA Sq2 131 (upd (Sq2.1 131) a1.toNatClampNeg (Sq2.2 116 25))) 132 (upd (Sq2.1 132) a1.toNatClampNeg (Sq2.2 116 26))) 133 (upd (Sq2.1 133) a1.toNatClampNeg (Sq2.2 116 25))) 134 (upd (Sq2.1 134) a1.toNatClampNeg (Sq2.2 116 26))) 135 (upd (Sq2.1 135) a1.toNatClampNeg 1)) 136 (upd (Sq2.1 136) a1.toNatClampNeg (Sq2.2 116 27))) 137 (upd (Sq2.1 137) a1.toNatClampNeg (Sq2.2 116 28))) 138 (upd (Sq2.1 138) a1.toNatClampNeg (Sq2.2 116 29))) (rz_v (fun Sq4 => K 0 (rz_fA Sq4 126 (upd (Sq4.1 126) a1.toNatClampNeg 2))))) ∧ (¬ xq2 = 0 → K xq2 Sq2))))) ∧ (¬ 10 ≤ a8 → ((a3 ≤ a8 → rx_in ((a7 + 5) + a8) 64 = true ∧ rz mM_opensNew 233 [(0, .ref 116), (1, .int a1), (2, .int a2), (3, .int a3), (7, .int a7), (8, .int (a8 + 1))] [] (rz_fA S 125 (upd (S.1 125) (((a7 + 5) + a8).toNatClampNeg) 160)) (rz_i K)) ∧ (¬ a3 ≤ a8 → rx_in (a2 + a8) 401 = true ∧ rx_in ((a7 + 5) + a8) 64 = true ∧ rz mM_opensNew 233 [(0, .ref 116), (1, .int a1), (2, .int a2), (3, .int a3), (7, .int a7), (8, .int (a8 + 1))] [] (rz_fA S 125 (upd (S.1 125) (((a7 + 5) + a8).toNatClampNeg) (S.1 151 ((a2 + a8).toNatClampNeg)))) (rz_i K)))))) : rz mM_opensNew 233 [(0, .ref 116), (1, .int a1), (2, .int a2), (3, .int a3), (7, .int a7), (8, .int a8)] [] S (rz_i K) := by
  refine rz_pure (pc' := 235) d_M_opensNew_233 rfl ?_
  refine rz_bipush (v := 10) d_M_opensNew_235 (by decide) ?_
  refine rz_icmpge (tgt := 279) d_M_opensNew_237 rfl (fun b1 => ?_) (fun b1 => ?_)
  · skip
    refine rz_pure (pc' := 280) d_M_opensNew_279 rfl ?_
    refine rz_getr d_M_opensNew_280 f_12_186 rfl rfl ?_
    refine rz_pure (pc' := 285) d_M_opensNew_283 rfl ?_
    refine rz_bipush (v := 15) d_M_opensNew_285 (by decide) ?_
    refine rz_iadd d_M_opensNew_287 ?_
    refine rz_iconst (v := 0) d_M_opensNew_288 (by decide) ?_
    refine rz_iastv (F := S.1 125) (i := (a7 + 15).toNatClampNeg) d_M_opensNew_289 rfl (w.1 b1).1 rfl rfl ?_
    refine rz_pure (pc' := 291) d_M_opensNew_290 rfl ?_
    refine rz_pure (pc' := 292) d_M_opensNew_291 rfl ?_
    refine rz_getiv (v := S.2 116 27) d_M_opensNew_292 f_12_211 rfl rfl rfl ?_
    refine rz_pure (pc' := 296) d_M_opensNew_295 rfl ?_
    refine rz_getiv (v := S.2 116 28) d_M_opensNew_296 f_12_214 rfl rfl rfl ?_
    refine rz_pure (pc' := 300) d_M_opensNew_299 rfl ?_
    refine rz_getr d_M_opensNew_300 f_12_186 rfl rfl ?_
    refine rz_iconst (v := 0) d_M_opensNew_303 (by decide) ?_
    refine rz_callVi (t := [.int 0, .ref 125, .int (S.2 116 28), .int (S.2 116 27)]) d_M_opensNew_304 w_12_152 rfl rfl rfl (w.1 b1).2 (fun xq2 Sq2 q2 => ?_)
    refine rz_pure (pc' := 309) (l' := [(6, .int xq2), (0, .ref 116), (1, .int a1), (2, .int a2), (3, .int a3), (7, .int a7), (8, .int a8)]) d_M_opensNew_307 rfl ?_
    refine rz_pure (pc' := 311) d_M_opensNew_309 rfl ?_
    refine rz_ifeq (tgt := 317) d_M_opensNew_311 rfl (fun b3 => ?_) (fun b3 => ?_)
    · skip
      refine rz_pure (pc' := 318) d_M_opensNew_317 rfl ?_
      refine rz_getr d_M_opensNew_318 f_12_341 rfl rfl ?_
      refine rz_pure (pc' := 322) d_M_opensNew_321 rfl ?_
      refine rz_pure (pc' := 323) d_M_opensNew_322 rfl ?_
      refine rz_getiv (v := Sq2.2 116 25) d_M_opensNew_323 f_12_155 rfl rfl rfl ?_
      refine rz_iastv (F := Sq2.1 131) (i := a1.toNatClampNeg) d_M_opensNew_326 rfl (q2.1 b3).1 rfl rfl ?_
      refine rz_pure (pc' := 328) d_M_opensNew_327 rfl ?_
      refine rz_getr d_M_opensNew_328 f_12_344 rfl rfl ?_
      refine rz_pure (pc' := 332) d_M_opensNew_331 rfl ?_
      refine rz_pure (pc' := 333) d_M_opensNew_332 rfl ?_
      refine rz_getiv (v := Sq2.2 116 26) d_M_opensNew_333 f_12_158 rfl rfl rfl ?_
      refine rz_iastv (F := Sq2.1 132) (i := a1.toNatClampNeg) d_M_opensNew_336 rfl (q2.1 b3).1 ((rz_fA_n (by omega)).trans rfl) rfl ?_
      refine rz_pure (pc' := 338) d_M_opensNew_337 rfl ?_
      refine rz_getr d_M_opensNew_338 f_12_347 rfl rfl ?_
      refine rz_pure (pc' := 342) d_M_opensNew_341 rfl ?_
      refine rz_pure (pc' := 343) d_M_opensNew_342 rfl ?_
      refine rz_getiv (v := Sq2.2 116 25) d_M_opensNew_343 f_12_155 rfl rfl rfl ?_
      refine rz_iastv (F := Sq2.1 133) (i := a1.toNatClampNeg) d_M_opensNew_346 rfl (q2.1 b3).1 ((rz_fA_n (by omega)).trans ((rz_fA_n (by omega)).trans rfl)) rfl ?_
      refine rz_pure (pc' := 348) d_M_opensNew_347 rfl ?_
      refine rz_getr d_M_opensNew_348 f_12_350 rfl rfl ?_
      refine rz_pure (pc' := 352) d_M_opensNew_351 rfl ?_
      refine rz_pure (pc' := 353) d_M_opensNew_352 rfl ?_
      refine rz_getiv (v := Sq2.2 116 26) d_M_opensNew_353 f_12_158 rfl rfl rfl ?_
      refine rz_iastv (F := Sq2.1 134) (i := a1.toNatClampNeg) d_M_opensNew_356 rfl (q2.1 b3).1 ((rz_fA_n (by omega)).trans ((rz_fA_n (by omega)).trans ((rz_fA_n (by omega)).trans rfl))) rfl ?_
      refine rz_pure (pc' := 358) d_M_opensNew_357 rfl ?_
      refine rz_getr d_M_opensNew_358 f_12_353 rfl rfl ?_
      refine rz_pure (pc' := 362) d_M_opensNew_361 rfl ?_
      refine rz_iconst (v := 1) d_M_opensNew_362 (by decide) ?_
      refine rz_iastv (F := Sq2.1 135) (i := a1.toNatClampNeg) d_M_opensNew_363 rfl (q2.1 b3).1 ((rz_fA_n (by omega)).trans ((rz_fA_n (by omega)).trans ((rz_fA_n (by omega)).trans ((rz_fA_n (by omega)).trans rfl)))) rfl ?_
      refine rz_pure (pc' := 365) d_M_opensNew_364 rfl ?_
      refine rz_getr d_M_opensNew_365 f_12_356 rfl rfl ?_
      refine rz_pure (pc' := 369) d_M_opensNew_368 rfl ?_
      refine rz_pure (pc' := 370) d_M_opensNew_369 rfl ?_
      refine rz_getiv (v := Sq2.2 116 27) d_M_opensNew_370 f_12_211 rfl rfl rfl ?_
      refine rz_iastv (F := Sq2.1 136) (i := a1.toNatClampNeg) d_M_opensNew_373 rfl (q2.1 b3).1 ((rz_fA_n (by omega)).trans ((rz_fA_n (by omega)).trans ((rz_fA_n (by omega)).trans ((rz_fA_n (by omega)).trans ((rz_fA_n (by omega)).trans rfl))))) rfl ?_
      refine rz_pure (pc' := 375) d_M_opensNew_374 rfl ?_
      refine rz_getr d_M_opensNew_375 f_12_359 rfl rfl ?_
      refine rz_pure (pc' := 379) d_M_opensNew_378 rfl ?_
      refine rz_pure (pc' := 380) d_M_opensNew_379 rfl ?_
      refine rz_getiv (v := Sq2.2 116 28) d_M_opensNew_380 f_12_214 rfl rfl rfl ?_
      refine rz_iastv (F := Sq2.1 137) (i := a1.toNatClampNeg) d_M_opensNew_383 rfl (q2.1 b3).1 ((rz_fA_n (by omega)).trans ((rz_fA_n (by omega)).trans ((rz_fA_n (by omega)).trans ((rz_fA_n (by omega)).trans ((rz_fA_n (by omega)).trans ((rz_fA_n (by omega)).trans rfl)))))) rfl ?_
      refine rz_pure (pc' := 385) d_M_opensNew_384 rfl ?_
      refine rz_getr d_M_opensNew_385 f_12_362 rfl rfl ?_
      refine rz_pure (pc' := 389) d_M_opensNew_388 rfl ?_
      refine rz_pure (pc' := 390) d_M_opensNew_389 rfl ?_
      refine rz_getiv (v := Sq2.2 116 29) d_M_opensNew_390 f_12_217 rfl rfl rfl ?_
      refine rz_iastv (F := Sq2.1 138) (i := a1.toNatClampNeg) d_M_opensNew_393 rfl (q2.1 b3).1 ((rz_fA_n (by omega)).trans ((rz_fA_n (by omega)).trans ((rz_fA_n (by omega)).trans ((rz_fA_n (by omega)).trans ((rz_fA_n (by omega)).trans ((rz_fA_n (by omega)).trans ((rz_fA_n (by omega)).trans rfl))))))) rfl ?_
      refine rz_pure (pc' := 395) d_M_opensNew_394 rfl ?_
      refine rz_pure (pc' := 396) d_M_opensNew_395 rfl ?_
      refine rz_callVv (t := [.int a1]) d_M_opensNew_396 w_12_365 rfl rfl rfl (q2.1 b3).2 (fun Sq4 q4 => ?_)
      refine rz_pure (pc' := 400) d_M_opensNew_399 rfl ?_
      refine rz_getr d_M_opensNew_400 f_12_248 rfl rfl ?_
      refine rz_pure (pc' := 404) d_M_opensNew_403 rfl ?_
      refine rz_iconst (v := 2) d_M_opensNew_404 (by decide) ?_
      refine rz_iastv (F := Sq4.1 126) (i := a1.toNatClampNeg) d_M_opensNew_405 rfl (q2.1 b3).1 rfl rfl ?_
      refine rz_iconst (v := 0) d_M_opensNew_406 (by decide) ?_
      exact rz_ireti d_M_opensNew_407 rfl rfl q4
    · skip
      refine rz_pure (pc' := 316) d_M_opensNew_314 rfl ?_
      exact rz_ireti d_M_opensNew_316 rfl rfl (q2.2 b3)
  · skip
    refine rz_pure (pc' := 241) d_M_opensNew_240 rfl ?_
    refine rz_getr d_M_opensNew_241 f_12_186 rfl rfl ?_
    refine rz_pure (pc' := 246) d_M_opensNew_244 rfl ?_
    refine rz_iconst (v := 5) d_M_opensNew_246 (by decide) ?_
    refine rz_iadd d_M_opensNew_247 ?_
    refine rz_pure (pc' := 250) d_M_opensNew_248 rfl ?_
    refine rz_iadd d_M_opensNew_250 ?_
    refine rz_pure (pc' := 253) d_M_opensNew_251 rfl ?_
    refine rz_pure (pc' := 254) d_M_opensNew_253 rfl ?_
    refine rz_icmpge (tgt := 269) d_M_opensNew_254 rfl (fun b5 => ?_) (fun b5 => ?_)
    · skip
      refine rz_sipush (v := 160) d_M_opensNew_269 (by decide) ?_
      refine rz_iastv (F := S.1 125) (i := ((a7 + 5) + a8).toNatClampNeg) d_M_opensNew_272 rfl ((w.2 b1).1 b5).1 rfl rfl ?_
      refine rz_pure (pc' := 276) (l' := [(8, .int (a8 + 1)), (0, .ref 116), (1, .int a1), (2, .int a2), (3, .int a3), (7, .int a7)]) d_M_opensNew_273 rfl ?_
      refine rz_pure (pc' := 233) d_M_opensNew_276 rfl ?_
      exact rz_pick (ks := [0, 1, 2, 3, 7, 8]) (l := [(0, .ref 116), (1, .int a1), (2, .int a2), (3, .int a3), (7, .int a7), (8, .int (a8 + 1))]) rfl rfl (by decide) rfl ((w.2 b1).1 b5).2
    · skip
      refine rz_pure (pc' := 258) d_M_opensNew_257 rfl ?_
      refine rz_getr d_M_opensNew_258 f_12_260 rfl rfl ?_
      refine rz_pure (pc' := 262) d_M_opensNew_261 rfl ?_
      refine rz_pure (pc' := 264) d_M_opensNew_262 rfl ?_
      refine rz_iadd d_M_opensNew_264 ?_
      refine rz_ialdv (F := S.1 151) (i := (a2 + a8).toNatClampNeg) d_M_opensNew_265 rfl ((w.2 b1).2 b5).1 rfl rfl ?_
      refine rz_pure (pc' := 272) d_M_opensNew_266 rfl ?_
      refine rz_iastv (F := S.1 125) (i := ((a7 + 5) + a8).toNatClampNeg) d_M_opensNew_272 rfl ((w.2 b1).2 b5).2.1 rfl rfl ?_
      refine rz_pure (pc' := 276) (l' := [(8, .int (a8 + 1)), (0, .ref 116), (1, .int a1), (2, .int a2), (3, .int a3), (7, .int a7)]) d_M_opensNew_273 rfl ?_
      refine rz_pure (pc' := 233) d_M_opensNew_276 rfl ?_
      exact rz_pick (ks := [0, 1, 2, 3, 7, 8]) (l := [(0, .ref 116), (1, .int a1), (2, .int a2), (3, .int a3), (7, .int a7), (8, .int (a8 + 1))]) rfl rfl (by decide) rfl ((w.2 b1).2 b5).2.2
theorem d_M_clears_0 : decode (rm_code mM_clears) 0 = .ok (.iconst 0, 1) := by decide +kernel
theorem d_M_clears_1 : decode (rm_code mM_clears) 1 = .ok (.istore_n 2, 1) := by decide +kernel
theorem d_M_clears_2 : decode (rm_code mM_clears) 2 = .ok (.iload_n 2, 1) := by decide +kernel
theorem d_M_clears_3 : decode (rm_code mM_clears) 3 = .ok (.bipush (64), 2) := by decide +kernel
theorem d_M_clears_5 : decode (rm_code mM_clears) 5 = .ok (.if_icmp .ge (21), 3) := by decide +kernel
theorem d_M_clears_8 : decode (rm_code mM_clears) 8 = .ok (.aload_n 0, 1) := by decide +kernel
theorem d_M_clears_9 : decode (rm_code mM_clears) 9 = .ok (.getfield 284, 3) := by decide +kernel
theorem d_M_clears_12 : decode (rm_code mM_clears) 12 = .ok (.bipush (64), 2) := by decide +kernel
theorem d_M_clears_14 : decode (rm_code mM_clears) 14 = .ok (.iload_n 1, 1) := by decide +kernel
theorem d_M_clears_15 : decode (rm_code mM_clears) 15 = .ok (.imul, 1) := by decide +kernel
theorem d_M_clears_16 : decode (rm_code mM_clears) 16 = .ok (.iload_n 2, 1) := by decide +kernel
theorem d_M_clears_17 : decode (rm_code mM_clears) 17 = .ok (.iadd, 1) := by decide +kernel
theorem d_M_clears_18 : decode (rm_code mM_clears) 18 = .ok (.iconst 0, 1) := by decide +kernel
theorem d_M_clears_19 : decode (rm_code mM_clears) 19 = .ok (.iastore, 1) := by decide +kernel
theorem d_M_clears_20 : decode (rm_code mM_clears) 20 = .ok (.iinc 2 (1), 3) := by decide +kernel
theorem d_M_clears_23 : decode (rm_code mM_clears) 23 = .ok (.goto (-21), 3) := by decide +kernel
theorem d_M_clears_26 : decode (rm_code mM_clears) 26 = .ok (.aload_n 0, 1) := by decide +kernel
theorem d_M_clears_27 : decode (rm_code mM_clears) 27 = .ok (.getfield 322, 3) := by decide +kernel
theorem d_M_clears_30 : decode (rm_code mM_clears) 30 = .ok (.iload_n 1, 1) := by decide +kernel
theorem d_M_clears_31 : decode (rm_code mM_clears) 31 = .ok (.iconst 0, 1) := by decide +kernel
theorem d_M_clears_32 : decode (rm_code mM_clears) 32 = .ok (.iastore, 1) := by decide +kernel
theorem d_M_clears_33 : decode (rm_code mM_clears) 33 = .ok (.return_, 1) := by decide +kernel
theorem p_M_clears_0 {S : rz_S} {K : rz_S → Prop} {a1 : Int32} (w : rz mM_clears 2 [(0, .ref 116), (1, .int a1), (2, .int 0)] [] S (rz_v K)) : rz mM_clears 0 [(0, .ref 116), (1, .int a1)] [] S (rz_v K) := by
  refine rz_iconst (v := 0) d_M_clears_0 (by decide) ?_
  refine rz_pure (pc' := 2) (l' := [(2, .int 0), (0, .ref 116), (1, .int a1)]) d_M_clears_1 rfl ?_
  exact rz_pick (ks := [0, 1, 2]) (l := [(0, .ref 116), (1, .int a1), (2, .int 0)]) rfl rfl (by decide) rfl w
theorem p_M_clears_2 {S : rz_S} {K : rz_S → Prop} {a1 : Int32} {a2 : Int32} (w : ((64 ≤ a2 → rx_in a1 15 = true ∧ K (rz_fA S 129 (upd (S.1 129) a1.toNatClampNeg 0))) ∧ (¬ 64 ≤ a2 → rx_in ((64 * a1) + a2) 960 = true ∧ rz mM_clears 2 [(0, .ref 116), (1, .int a1), (2, .int (a2 + 1))] [] (rz_fA S 127 (upd (S.1 127) (((64 * a1) + a2).toNatClampNeg) 0)) (rz_v K)))) : rz mM_clears 2 [(0, .ref 116), (1, .int a1), (2, .int a2)] [] S (rz_v K) := by
  refine rz_pure (pc' := 3) d_M_clears_2 rfl ?_
  refine rz_bipush (v := 64) d_M_clears_3 (by decide) ?_
  refine rz_icmpge (tgt := 26) d_M_clears_5 rfl (fun b1 => ?_) (fun b1 => ?_)
  · skip
    refine rz_pure (pc' := 27) d_M_clears_26 rfl ?_
    refine rz_getr d_M_clears_27 f_12_322 rfl rfl ?_
    refine rz_pure (pc' := 31) d_M_clears_30 rfl ?_
    refine rz_iconst (v := 0) d_M_clears_31 (by decide) ?_
    refine rz_iastv (F := S.1 129) (i := a1.toNatClampNeg) d_M_clears_32 rfl (w.1 b1).1 rfl rfl ?_
    exact rz_vretv d_M_clears_33 rfl (w.1 b1).2
  · skip
    refine rz_pure (pc' := 9) d_M_clears_8 rfl ?_
    refine rz_getr d_M_clears_9 f_12_284 rfl rfl ?_
    refine rz_bipush (v := 64) d_M_clears_12 (by decide) ?_
    refine rz_pure (pc' := 15) d_M_clears_14 rfl ?_
    refine rz_imul d_M_clears_15 ?_
    refine rz_pure (pc' := 17) d_M_clears_16 rfl ?_
    refine rz_iadd d_M_clears_17 ?_
    refine rz_iconst (v := 0) d_M_clears_18 (by decide) ?_
    refine rz_iastv (F := S.1 127) (i := ((64 * a1) + a2).toNatClampNeg) d_M_clears_19 rfl (w.2 b1).1 rfl rfl ?_
    refine rz_pure (pc' := 23) (l' := [(2, .int (a2 + 1)), (0, .ref 116), (1, .int a1)]) d_M_clears_20 rfl ?_
    refine rz_pure (pc' := 2) d_M_clears_23 rfl ?_
    exact rz_pick (ks := [0, 1, 2]) (l := [(0, .ref 116), (1, .int a1), (2, .int (a2 + 1))]) rfl rfl (by decide) rfl (w.2 b1).2
theorem d_M_shuts_0 : decode (rm_code mM_shuts) 0 = .ok (.aload_n 0, 1) := by decide +kernel
theorem d_M_shuts_1 : decode (rm_code mM_shuts) 1 = .ok (.getfield 248, 3) := by decide +kernel
theorem d_M_shuts_4 : decode (rm_code mM_shuts) 4 = .ok (.iload_n 1, 1) := by decide +kernel
theorem d_M_shuts_5 : decode (rm_code mM_shuts) 5 = .ok (.iaload, 1) := by decide +kernel
theorem d_M_shuts_6 : decode (rm_code mM_shuts) 6 = .ok (.istore_n 2, 1) := by decide +kernel
theorem d_M_shuts_7 : decode (rm_code mM_shuts) 7 = .ok (.aload_n 0, 1) := by decide +kernel
theorem d_M_shuts_8 : decode (rm_code mM_shuts) 8 = .ok (.getfield 248, 3) := by decide +kernel
theorem d_M_shuts_11 : decode (rm_code mM_shuts) 11 = .ok (.iload_n 1, 1) := by decide +kernel
theorem d_M_shuts_12 : decode (rm_code mM_shuts) 12 = .ok (.iconst 0, 1) := by decide +kernel
theorem d_M_shuts_13 : decode (rm_code mM_shuts) 13 = .ok (.iastore, 1) := by decide +kernel
theorem d_M_shuts_14 : decode (rm_code mM_shuts) 14 = .ok (.iload_n 2, 1) := by decide +kernel
theorem d_M_shuts_15 : decode (rm_code mM_shuts) 15 = .ok (.iconst 2, 1) := by decide +kernel
theorem d_M_shuts_16 : decode (rm_code mM_shuts) 16 = .ok (.if_icmp .eq (5), 3) := by decide +kernel
theorem d_M_shuts_19 : decode (rm_code mM_shuts) 19 = .ok (.iconst 0, 1) := by decide +kernel
theorem d_M_shuts_20 : decode (rm_code mM_shuts) 20 = .ok (.ireturn, 1) := by decide +kernel
theorem d_M_shuts_21 : decode (rm_code mM_shuts) 21 = .ok (.aload_n 0, 1) := by decide +kernel
theorem d_M_shuts_22 : decode (rm_code mM_shuts) 22 = .ok (.getfield 284, 3) := by decide +kernel
theorem d_M_shuts_25 : decode (rm_code mM_shuts) 25 = .ok (.bipush (64), 2) := by decide +kernel
theorem d_M_shuts_27 : decode (rm_code mM_shuts) 27 = .ok (.iload_n 1, 1) := by decide +kernel
theorem d_M_shuts_28 : decode (rm_code mM_shuts) 28 = .ok (.imul, 1) := by decide +kernel
theorem d_M_shuts_29 : decode (rm_code mM_shuts) 29 = .ok (.iconst 0, 1) := by decide +kernel
theorem d_M_shuts_30 : decode (rm_code mM_shuts) 30 = .ok (.iastore, 1) := by decide +kernel
theorem d_M_shuts_31 : decode (rm_code mM_shuts) 31 = .ok (.aload_n 0, 1) := by decide +kernel
theorem d_M_shuts_32 : decode (rm_code mM_shuts) 32 = .ok (.getfield 284, 3) := by decide +kernel
theorem d_M_shuts_35 : decode (rm_code mM_shuts) 35 = .ok (.bipush (64), 2) := by decide +kernel
theorem d_M_shuts_37 : decode (rm_code mM_shuts) 37 = .ok (.iload_n 1, 1) := by decide +kernel
theorem d_M_shuts_38 : decode (rm_code mM_shuts) 38 = .ok (.imul, 1) := by decide +kernel
theorem d_M_shuts_39 : decode (rm_code mM_shuts) 39 = .ok (.iconst 1, 1) := by decide +kernel
theorem d_M_shuts_40 : decode (rm_code mM_shuts) 40 = .ok (.iadd, 1) := by decide +kernel
theorem d_M_shuts_41 : decode (rm_code mM_shuts) 41 = .ok (.aload_n 0, 1) := by decide +kernel
theorem d_M_shuts_42 : decode (rm_code mM_shuts) 42 = .ok (.getfield 322, 3) := by decide +kernel
theorem d_M_shuts_45 : decode (rm_code mM_shuts) 45 = .ok (.iload_n 1, 1) := by decide +kernel
theorem d_M_shuts_46 : decode (rm_code mM_shuts) 46 = .ok (.iaload, 1) := by decide +kernel
theorem d_M_shuts_47 : decode (rm_code mM_shuts) 47 = .ok (.iconst 1, 1) := by decide +kernel
theorem d_M_shuts_48 : decode (rm_code mM_shuts) 48 = .ok (.iadd, 1) := by decide +kernel
theorem d_M_shuts_49 : decode (rm_code mM_shuts) 49 = .ok (.iastore, 1) := by decide +kernel
theorem d_M_shuts_50 : decode (rm_code mM_shuts) 50 = .ok (.aload_n 0, 1) := by decide +kernel
theorem d_M_shuts_51 : decode (rm_code mM_shuts) 51 = .ok (.aload_n 0, 1) := by decide +kernel
theorem d_M_shuts_52 : decode (rm_code mM_shuts) 52 = .ok (.getfield 347, 3) := by decide +kernel
theorem d_M_shuts_55 : decode (rm_code mM_shuts) 55 = .ok (.iload_n 1, 1) := by decide +kernel
theorem d_M_shuts_56 : decode (rm_code mM_shuts) 56 = .ok (.iaload, 1) := by decide +kernel
theorem d_M_shuts_57 : decode (rm_code mM_shuts) 57 = .ok (.aload_n 0, 1) := by decide +kernel
theorem d_M_shuts_58 : decode (rm_code mM_shuts) 58 = .ok (.getfield 350, 3) := by decide +kernel
theorem d_M_shuts_61 : decode (rm_code mM_shuts) 61 = .ok (.iload_n 1, 1) := by decide +kernel
theorem d_M_shuts_62 : decode (rm_code mM_shuts) 62 = .ok (.iaload, 1) := by decide +kernel
theorem d_M_shuts_63 : decode (rm_code mM_shuts) 63 = .ok (.aload_n 0, 1) := by decide +kernel
theorem d_M_shuts_64 : decode (rm_code mM_shuts) 64 = .ok (.getfield 284, 3) := by decide +kernel
theorem d_M_shuts_67 : decode (rm_code mM_shuts) 67 = .ok (.bipush (64), 2) := by decide +kernel
theorem d_M_shuts_69 : decode (rm_code mM_shuts) 69 = .ok (.iload_n 1, 1) := by decide +kernel
theorem d_M_shuts_70 : decode (rm_code mM_shuts) 70 = .ok (.imul, 1) := by decide +kernel
theorem d_M_shuts_71 : decode (rm_code mM_shuts) 71 = .ok (.invokevirtual 152, 3) := by decide +kernel
theorem d_M_shuts_74 : decode (rm_code mM_shuts) 74 = .ok (.istore_n 3, 1) := by decide +kernel
theorem d_M_shuts_75 : decode (rm_code mM_shuts) 75 = .ok (.iload_n 3, 1) := by decide +kernel
theorem d_M_shuts_76 : decode (rm_code mM_shuts) 76 = .ok (.ifCond .eq (5), 3) := by decide +kernel
theorem d_M_shuts_79 : decode (rm_code mM_shuts) 79 = .ok (.iload_n 3, 1) := by decide +kernel
theorem d_M_shuts_80 : decode (rm_code mM_shuts) 80 = .ok (.ireturn, 1) := by decide +kernel
theorem d_M_shuts_81 : decode (rm_code mM_shuts) 81 = .ok (.aload_n 0, 1) := by decide +kernel
theorem d_M_shuts_82 : decode (rm_code mM_shuts) 82 = .ok (.aload_n 0, 1) := by decide +kernel
theorem d_M_shuts_83 : decode (rm_code mM_shuts) 83 = .ok (.getfield 356, 3) := by decide +kernel
theorem d_M_shuts_86 : decode (rm_code mM_shuts) 86 = .ok (.iload_n 1, 1) := by decide +kernel
theorem d_M_shuts_87 : decode (rm_code mM_shuts) 87 = .ok (.iaload, 1) := by decide +kernel
theorem d_M_shuts_88 : decode (rm_code mM_shuts) 88 = .ok (.aload_n 0, 1) := by decide +kernel
theorem d_M_shuts_89 : decode (rm_code mM_shuts) 89 = .ok (.getfield 359, 3) := by decide +kernel
theorem d_M_shuts_92 : decode (rm_code mM_shuts) 92 = .ok (.iload_n 1, 1) := by decide +kernel
theorem d_M_shuts_93 : decode (rm_code mM_shuts) 93 = .ok (.iaload, 1) := by decide +kernel
theorem d_M_shuts_94 : decode (rm_code mM_shuts) 94 = .ok (.aload_n 0, 1) := by decide +kernel
theorem d_M_shuts_95 : decode (rm_code mM_shuts) 95 = .ok (.getfield 186, 3) := by decide +kernel
theorem d_M_shuts_98 : decode (rm_code mM_shuts) 98 = .ok (.iconst 0, 1) := by decide +kernel
theorem d_M_shuts_99 : decode (rm_code mM_shuts) 99 = .ok (.invokevirtual 148, 3) := by decide +kernel
theorem d_M_shuts_102 : decode (rm_code mM_shuts) 102 = .ok (.istore_n 3, 1) := by decide +kernel
theorem d_M_shuts_103 : decode (rm_code mM_shuts) 103 = .ok (.iload_n 3, 1) := by decide +kernel
theorem d_M_shuts_104 : decode (rm_code mM_shuts) 104 = .ok (.ifCond .eq (5), 3) := by decide +kernel
theorem d_M_shuts_107 : decode (rm_code mM_shuts) 107 = .ok (.iload_n 3, 1) := by decide +kernel
theorem d_M_shuts_108 : decode (rm_code mM_shuts) 108 = .ok (.ireturn, 1) := by decide +kernel
theorem d_M_shuts_109 : decode (rm_code mM_shuts) 109 = .ok (.bipush (16), 2) := by decide +kernel
theorem d_M_shuts_111 : decode (rm_code mM_shuts) 111 = .ok (.aload_n 0, 1) := by decide +kernel
theorem d_M_shuts_112 : decode (rm_code mM_shuts) 112 = .ok (.getfield 362, 3) := by decide +kernel
theorem d_M_shuts_115 : decode (rm_code mM_shuts) 115 = .ok (.iload_n 1, 1) := by decide +kernel
theorem d_M_shuts_116 : decode (rm_code mM_shuts) 116 = .ok (.iaload, 1) := by decide +kernel
theorem d_M_shuts_117 : decode (rm_code mM_shuts) 117 = .ok (.imul, 1) := by decide +kernel
theorem d_M_shuts_118 : decode (rm_code mM_shuts) 118 = .ok (.istore 4, 2) := by decide +kernel
theorem d_M_shuts_120 : decode (rm_code mM_shuts) 120 = .ok (.aload_n 0, 1) := by decide +kernel
theorem d_M_shuts_121 : decode (rm_code mM_shuts) 121 = .ok (.getfield 186, 3) := by decide +kernel
theorem d_M_shuts_124 : decode (rm_code mM_shuts) 124 = .ok (.iload 4, 2) := by decide +kernel
theorem d_M_shuts_126 : decode (rm_code mM_shuts) 126 = .ok (.iconst 2, 1) := by decide +kernel
theorem d_M_shuts_127 : decode (rm_code mM_shuts) 127 = .ok (.iadd, 1) := by decide +kernel
theorem d_M_shuts_128 : decode (rm_code mM_shuts) 128 = .ok (.aload_n 0, 1) := by decide +kernel
theorem d_M_shuts_129 : decode (rm_code mM_shuts) 129 = .ok (.getfield 186, 3) := by decide +kernel
theorem d_M_shuts_132 : decode (rm_code mM_shuts) 132 = .ok (.iload 4, 2) := by decide +kernel
theorem d_M_shuts_134 : decode (rm_code mM_shuts) 134 = .ok (.iconst 2, 1) := by decide +kernel
theorem d_M_shuts_135 : decode (rm_code mM_shuts) 135 = .ok (.iadd, 1) := by decide +kernel
theorem d_M_shuts_136 : decode (rm_code mM_shuts) 136 = .ok (.iaload, 1) := by decide +kernel
theorem d_M_shuts_137 : decode (rm_code mM_shuts) 137 = .ok (.sipush (128), 3) := by decide +kernel
theorem d_M_shuts_140 : decode (rm_code mM_shuts) 140 = .ok (.ior, 1) := by decide +kernel
theorem d_M_shuts_141 : decode (rm_code mM_shuts) 141 = .ok (.iastore, 1) := by decide +kernel
theorem d_M_shuts_142 : decode (rm_code mM_shuts) 142 = .ok (.aload_n 0, 1) := by decide +kernel
theorem d_M_shuts_143 : decode (rm_code mM_shuts) 143 = .ok (.getfield 186, 3) := by decide +kernel
theorem d_M_shuts_146 : decode (rm_code mM_shuts) 146 = .ok (.iload 4, 2) := by decide +kernel
theorem d_M_shuts_148 : decode (rm_code mM_shuts) 148 = .ok (.bipush (15), 2) := by decide +kernel
theorem d_M_shuts_150 : decode (rm_code mM_shuts) 150 = .ok (.iadd, 1) := by decide +kernel
theorem d_M_shuts_151 : decode (rm_code mM_shuts) 151 = .ok (.aload_n 0, 1) := by decide +kernel
theorem d_M_shuts_152 : decode (rm_code mM_shuts) 152 = .ok (.getfield 353, 3) := by decide +kernel
theorem d_M_shuts_155 : decode (rm_code mM_shuts) 155 = .ok (.iload_n 1, 1) := by decide +kernel
theorem d_M_shuts_156 : decode (rm_code mM_shuts) 156 = .ok (.iaload, 1) := by decide +kernel
theorem d_M_shuts_157 : decode (rm_code mM_shuts) 157 = .ok (.iastore, 1) := by decide +kernel
theorem d_M_shuts_158 : decode (rm_code mM_shuts) 158 = .ok (.aload_n 0, 1) := by decide +kernel
theorem d_M_shuts_159 : decode (rm_code mM_shuts) 159 = .ok (.aload_n 0, 1) := by decide +kernel
theorem d_M_shuts_160 : decode (rm_code mM_shuts) 160 = .ok (.getfield 356, 3) := by decide +kernel
theorem d_M_shuts_163 : decode (rm_code mM_shuts) 163 = .ok (.iload_n 1, 1) := by decide +kernel
theorem d_M_shuts_164 : decode (rm_code mM_shuts) 164 = .ok (.iaload, 1) := by decide +kernel
theorem d_M_shuts_165 : decode (rm_code mM_shuts) 165 = .ok (.aload_n 0, 1) := by decide +kernel
theorem d_M_shuts_166 : decode (rm_code mM_shuts) 166 = .ok (.getfield 359, 3) := by decide +kernel
theorem d_M_shuts_169 : decode (rm_code mM_shuts) 169 = .ok (.iload_n 1, 1) := by decide +kernel
theorem d_M_shuts_170 : decode (rm_code mM_shuts) 170 = .ok (.iaload, 1) := by decide +kernel
theorem d_M_shuts_171 : decode (rm_code mM_shuts) 171 = .ok (.aload_n 0, 1) := by decide +kernel
theorem d_M_shuts_172 : decode (rm_code mM_shuts) 172 = .ok (.getfield 186, 3) := by decide +kernel
theorem d_M_shuts_175 : decode (rm_code mM_shuts) 175 = .ok (.iconst 0, 1) := by decide +kernel
theorem d_M_shuts_176 : decode (rm_code mM_shuts) 176 = .ok (.invokevirtual 152, 3) := by decide +kernel
theorem d_M_shuts_179 : decode (rm_code mM_shuts) 179 = .ok (.ireturn, 1) := by decide +kernel
theorem p_M_shuts_0 {S : rz_S} {K : Int32 → rz_S → Prop} {a1 : Int32} (w : rx_in a1 15 = true ∧ ((S.1 126 a1.toNatClampNeg = 2 → rx_in (64 * a1) 960 = true ∧ rx_in ((64 * a1) + 1) 960 = true ∧ rz_ev mM_writeBlock [.ref 116, .int (S.1 133 a1.toNatClampNeg), .int (S.1 134 a1.toNatClampNeg), .ref 127, .int (64 * a1)] (rz_fA (rz_fA (rz_fA S 126 (upd (S.1 126) a1.toNatClampNeg 0)) 127 (upd (S.1 127) ((64 * a1).toNatClampNeg) 0)) 127 (upd (upd (S.1 127) ((64 * a1).toNatClampNeg) 0) (((64 * a1) + 1).toNatClampNeg) ((S.1 129 a1.toNatClampNeg) + 1))) (rz_i (fun xq2 Sq2 => ((xq2 = 0 → rz_ev mM_readBlock [.ref 116, .int (Sq2.1 136 a1.toNatClampNeg), .int (Sq2.1 137 a1.toNatClampNeg), .ref 125, .int 0] Sq2 (rz_i (fun xq4 Sq4 => ((xq4 = 0 → rx_in ((16 * (Sq4.1 138 a1.toNatClampNeg)) + 2) 64 = true ∧ rx_in ((16 * (Sq4.1 138 a1.toNatClampNeg)) + 15) 64 = true ∧ rz_ev mM_writeBlock [.ref 116, .int (Sq4.1 136 a1.toNatClampNeg), .int (Sq4.1 137 a1.toNatClampNeg), .ref 125, .int 0] (rz_fA (rz_fA Sq4 125 (upd (Sq4.1 125) (((16 * (Sq4.1 138 a1.toNatClampNeg)) + 2).toNatClampNeg) ((Sq4.1 125 (((16 * (Sq4.1 138 a1.toNatClampNeg)) + 2).toNatClampNeg)) ||| 128))) 125 (upd (upd (Sq4.1 125) (((16 * (Sq4.1 138 a1.toNatClampNeg)) + 2).toNatClampNeg) ((Sq4.1 125 (((16 * (Sq4.1 138 a1.toNatClampNeg)) + 2).toNatClampNeg)) ||| 128)) (((16 * (Sq4.1 138 a1.toNatClampNeg)) + 15).toNatClampNeg) (Sq4.1 135 a1.toNatClampNeg))) (rz_i (fun xq6 Sq6 => K xq6 Sq6))) ∧ (¬ xq4 = 0 → K xq4 Sq4))))) ∧ (¬ xq2 = 0 → K xq2 Sq2))))) ∧ (¬ S.1 126 a1.toNatClampNeg = 2 → K 0 (rz_fA S 126 (upd (S.1 126) a1.toNatClampNeg 0))))) : rz mM_shuts 0 [(0, .ref 116), (1, .int a1)] [] S (rz_i K) := by
  refine rz_pure (pc' := 1) d_M_shuts_0 rfl ?_
  refine rz_getr d_M_shuts_1 f_12_248 rfl rfl ?_
  refine rz_pure (pc' := 5) d_M_shuts_4 rfl ?_
  refine rz_ialdv (F := S.1 126) (i := a1.toNatClampNeg) d_M_shuts_5 rfl w.1 rfl rfl ?_
  refine rz_pure (pc' := 7) (l' := [(2, .int (S.1 126 a1.toNatClampNeg)), (0, .ref 116), (1, .int a1)]) d_M_shuts_6 rfl ?_
  refine rz_pure (pc' := 8) d_M_shuts_7 rfl ?_
  refine rz_getr d_M_shuts_8 f_12_248 rfl rfl ?_
  refine rz_pure (pc' := 12) d_M_shuts_11 rfl ?_
  refine rz_iconst (v := 0) d_M_shuts_12 (by decide) ?_
  refine rz_iastv (F := S.1 126) (i := a1.toNatClampNeg) d_M_shuts_13 rfl w.1 rfl rfl ?_
  refine rz_pure (pc' := 15) d_M_shuts_14 rfl ?_
  refine rz_iconst (v := 2) d_M_shuts_15 (by decide) ?_
  refine rz_icmpeq (tgt := 21) d_M_shuts_16 rfl (fun b1 => ?_) (fun b1 => ?_)
  · skip
    refine rz_pure (pc' := 22) d_M_shuts_21 rfl ?_
    refine rz_getr d_M_shuts_22 f_12_284 rfl rfl ?_
    refine rz_bipush (v := 64) d_M_shuts_25 (by decide) ?_
    refine rz_pure (pc' := 28) d_M_shuts_27 rfl ?_
    refine rz_imul d_M_shuts_28 ?_
    refine rz_iconst (v := 0) d_M_shuts_29 (by decide) ?_
    refine rz_iastv (F := S.1 127) (i := (64 * a1).toNatClampNeg) d_M_shuts_30 rfl (w.2.1 b1).1 ((rz_fA_n (by omega)).trans rfl) rfl ?_
    refine rz_pure (pc' := 32) d_M_shuts_31 rfl ?_
    refine rz_getr d_M_shuts_32 f_12_284 rfl rfl ?_
    refine rz_bipush (v := 64) d_M_shuts_35 (by decide) ?_
    refine rz_pure (pc' := 38) d_M_shuts_37 rfl ?_
    refine rz_imul d_M_shuts_38 ?_
    refine rz_iconst (v := 1) d_M_shuts_39 (by decide) ?_
    refine rz_iadd d_M_shuts_40 ?_
    refine rz_pure (pc' := 42) d_M_shuts_41 rfl ?_
    refine rz_getr d_M_shuts_42 f_12_322 rfl rfl ?_
    refine rz_pure (pc' := 46) d_M_shuts_45 rfl ?_
    refine rz_ialdv (F := S.1 129) (i := a1.toNatClampNeg) d_M_shuts_46 rfl w.1 ((rz_fA_n (by omega)).trans ((rz_fA_n (by omega)).trans rfl)) rfl ?_
    refine rz_iconst (v := 1) d_M_shuts_47 (by decide) ?_
    refine rz_iadd d_M_shuts_48 ?_
    refine rz_iastv (F := upd (S.1 127) ((64 * a1).toNatClampNeg) 0) (i := ((64 * a1) + 1).toNatClampNeg) d_M_shuts_49 rfl (w.2.1 b1).2.1 rz_fA_s rfl ?_
    refine rz_pure (pc' := 51) d_M_shuts_50 rfl ?_
    refine rz_pure (pc' := 52) d_M_shuts_51 rfl ?_
    refine rz_getr d_M_shuts_52 f_12_347 rfl rfl ?_
    refine rz_pure (pc' := 56) d_M_shuts_55 rfl ?_
    refine rz_ialdv (F := S.1 133) (i := a1.toNatClampNeg) d_M_shuts_56 rfl w.1 ((rz_fA_n (by omega)).trans ((rz_fA_n (by omega)).trans ((rz_fA_n (by omega)).trans rfl))) rfl ?_
    refine rz_pure (pc' := 58) d_M_shuts_57 rfl ?_
    refine rz_getr d_M_shuts_58 f_12_350 rfl rfl ?_
    refine rz_pure (pc' := 62) d_M_shuts_61 rfl ?_
    refine rz_ialdv (F := S.1 134) (i := a1.toNatClampNeg) d_M_shuts_62 rfl w.1 ((rz_fA_n (by omega)).trans ((rz_fA_n (by omega)).trans ((rz_fA_n (by omega)).trans rfl))) rfl ?_
    refine rz_pure (pc' := 64) d_M_shuts_63 rfl ?_
    refine rz_getr d_M_shuts_64 f_12_284 rfl rfl ?_
    refine rz_bipush (v := 64) d_M_shuts_67 (by decide) ?_
    refine rz_pure (pc' := 70) d_M_shuts_69 rfl ?_
    refine rz_imul d_M_shuts_70 ?_
    refine rz_callVi (t := [.int (64 * a1), .ref 127, .int (S.1 134 a1.toNatClampNeg), .int (S.1 133 a1.toNatClampNeg)]) d_M_shuts_71 w_12_152 rfl rfl rfl (w.2.1 b1).2.2 (fun xq2 Sq2 q2 => ?_)
    refine rz_pure (pc' := 75) (l' := [(3, .int xq2), (2, .int (S.1 126 a1.toNatClampNeg)), (0, .ref 116), (1, .int a1)]) d_M_shuts_74 rfl ?_
    refine rz_pure (pc' := 76) d_M_shuts_75 rfl ?_
    refine rz_ifeq (tgt := 81) d_M_shuts_76 rfl (fun b3 => ?_) (fun b3 => ?_)
    · skip
      refine rz_pure (pc' := 82) d_M_shuts_81 rfl ?_
      refine rz_pure (pc' := 83) d_M_shuts_82 rfl ?_
      refine rz_getr d_M_shuts_83 f_12_356 rfl rfl ?_
      refine rz_pure (pc' := 87) d_M_shuts_86 rfl ?_
      refine rz_ialdv (F := Sq2.1 136) (i := a1.toNatClampNeg) d_M_shuts_87 rfl w.1 rfl rfl ?_
      refine rz_pure (pc' := 89) d_M_shuts_88 rfl ?_
      refine rz_getr d_M_shuts_89 f_12_359 rfl rfl ?_
      refine rz_pure (pc' := 93) d_M_shuts_92 rfl ?_
      refine rz_ialdv (F := Sq2.1 137) (i := a1.toNatClampNeg) d_M_shuts_93 rfl w.1 rfl rfl ?_
      refine rz_pure (pc' := 95) d_M_shuts_94 rfl ?_
      refine rz_getr d_M_shuts_95 f_12_186 rfl rfl ?_
      refine rz_iconst (v := 0) d_M_shuts_98 (by decide) ?_
      refine rz_callVi (t := [.int 0, .ref 125, .int (Sq2.1 137 a1.toNatClampNeg), .int (Sq2.1 136 a1.toNatClampNeg)]) d_M_shuts_99 w_12_148 rfl rfl rfl (q2.1 b3) (fun xq4 Sq4 q4 => ?_)
      refine rz_pure (pc' := 103) (l' := [(3, .int xq4), (2, .int (S.1 126 a1.toNatClampNeg)), (0, .ref 116), (1, .int a1)]) d_M_shuts_102 rfl ?_
      refine rz_pure (pc' := 104) d_M_shuts_103 rfl ?_
      refine rz_ifeq (tgt := 109) d_M_shuts_104 rfl (fun b5 => ?_) (fun b5 => ?_)
      · skip
        refine rz_bipush (v := 16) d_M_shuts_109 (by decide) ?_
        refine rz_pure (pc' := 112) d_M_shuts_111 rfl ?_
        refine rz_getr d_M_shuts_112 f_12_362 rfl rfl ?_
        refine rz_pure (pc' := 116) d_M_shuts_115 rfl ?_
        refine rz_ialdv (F := Sq4.1 138) (i := a1.toNatClampNeg) d_M_shuts_116 rfl w.1 rfl rfl ?_
        refine rz_imul d_M_shuts_117 ?_
        refine rz_pure (pc' := 120) (l' := [(4, .int (16 * (Sq4.1 138 a1.toNatClampNeg))), (3, .int xq4), (2, .int (S.1 126 a1.toNatClampNeg)), (0, .ref 116), (1, .int a1)]) d_M_shuts_118 rfl ?_
        refine rz_pure (pc' := 121) d_M_shuts_120 rfl ?_
        refine rz_getr d_M_shuts_121 f_12_186 rfl rfl ?_
        refine rz_pure (pc' := 126) d_M_shuts_124 rfl ?_
        refine rz_iconst (v := 2) d_M_shuts_126 (by decide) ?_
        refine rz_iadd d_M_shuts_127 ?_
        refine rz_pure (pc' := 129) d_M_shuts_128 rfl ?_
        refine rz_getr d_M_shuts_129 f_12_186 rfl rfl ?_
        refine rz_pure (pc' := 134) d_M_shuts_132 rfl ?_
        refine rz_iconst (v := 2) d_M_shuts_134 (by decide) ?_
        refine rz_iadd d_M_shuts_135 ?_
        refine rz_ialdv (F := Sq4.1 125) (i := ((16 * (Sq4.1 138 a1.toNatClampNeg)) + 2).toNatClampNeg) d_M_shuts_136 rfl (q4.1 b5).1 rfl rfl ?_
        refine rz_sipush (v := 128) d_M_shuts_137 (by decide) ?_
        refine rz_ior d_M_shuts_140 ?_
        refine rz_iastv (F := Sq4.1 125) (i := ((16 * (Sq4.1 138 a1.toNatClampNeg)) + 2).toNatClampNeg) d_M_shuts_141 rfl (q4.1 b5).1 rfl rfl ?_
        refine rz_pure (pc' := 143) d_M_shuts_142 rfl ?_
        refine rz_getr d_M_shuts_143 f_12_186 rfl rfl ?_
        refine rz_pure (pc' := 148) d_M_shuts_146 rfl ?_
        refine rz_bipush (v := 15) d_M_shuts_148 (by decide) ?_
        refine rz_iadd d_M_shuts_150 ?_
        refine rz_pure (pc' := 152) d_M_shuts_151 rfl ?_
        refine rz_getr d_M_shuts_152 f_12_353 rfl rfl ?_
        refine rz_pure (pc' := 156) d_M_shuts_155 rfl ?_
        refine rz_ialdv (F := Sq4.1 135) (i := a1.toNatClampNeg) d_M_shuts_156 rfl w.1 ((rz_fA_n (by omega)).trans rfl) rfl ?_
        refine rz_iastv (F := upd (Sq4.1 125) (((16 * (Sq4.1 138 a1.toNatClampNeg)) + 2).toNatClampNeg) ((Sq4.1 125 (((16 * (Sq4.1 138 a1.toNatClampNeg)) + 2).toNatClampNeg)) ||| 128)) (i := ((16 * (Sq4.1 138 a1.toNatClampNeg)) + 15).toNatClampNeg) d_M_shuts_157 rfl (q4.1 b5).2.1 rz_fA_s rfl ?_
        refine rz_pure (pc' := 159) d_M_shuts_158 rfl ?_
        refine rz_pure (pc' := 160) d_M_shuts_159 rfl ?_
        refine rz_getr d_M_shuts_160 f_12_356 rfl rfl ?_
        refine rz_pure (pc' := 164) d_M_shuts_163 rfl ?_
        refine rz_ialdv (F := Sq4.1 136) (i := a1.toNatClampNeg) d_M_shuts_164 rfl w.1 ((rz_fA_n (by omega)).trans ((rz_fA_n (by omega)).trans rfl)) rfl ?_
        refine rz_pure (pc' := 166) d_M_shuts_165 rfl ?_
        refine rz_getr d_M_shuts_166 f_12_359 rfl rfl ?_
        refine rz_pure (pc' := 170) d_M_shuts_169 rfl ?_
        refine rz_ialdv (F := Sq4.1 137) (i := a1.toNatClampNeg) d_M_shuts_170 rfl w.1 ((rz_fA_n (by omega)).trans ((rz_fA_n (by omega)).trans rfl)) rfl ?_
        refine rz_pure (pc' := 172) d_M_shuts_171 rfl ?_
        refine rz_getr d_M_shuts_172 f_12_186 rfl rfl ?_
        refine rz_iconst (v := 0) d_M_shuts_175 (by decide) ?_
        refine rz_callVi (t := [.int 0, .ref 125, .int (Sq4.1 137 a1.toNatClampNeg), .int (Sq4.1 136 a1.toNatClampNeg)]) d_M_shuts_176 w_12_152 rfl rfl rfl (q4.1 b5).2.2 (fun xq6 Sq6 q6 => ?_)
        exact rz_ireti d_M_shuts_179 rfl rfl q6
      · skip
        refine rz_pure (pc' := 108) d_M_shuts_107 rfl ?_
        exact rz_ireti d_M_shuts_108 rfl rfl (q4.2 b5)
    · skip
      refine rz_pure (pc' := 80) d_M_shuts_79 rfl ?_
      exact rz_ireti d_M_shuts_80 rfl rfl (q2.2 b3)
  · skip
    refine rz_iconst (v := 0) d_M_shuts_19 (by decide) ?_
    exact rz_ireti d_M_shuts_20 rfl rfl (w.2.2 b1)
theorem d_M_close_0 : decode (rm_code mM_close) 0 = .ok (.iload_n 1, 1) := by decide +kernel
theorem d_M_close_1 : decode (rm_code mM_close) 1 = .ok (.ifCond .lt (9), 3) := by decide +kernel
theorem d_M_close_4 : decode (rm_code mM_close) 4 = .ok (.iload_n 1, 1) := by decide +kernel
theorem d_M_close_5 : decode (rm_code mM_close) 5 = .ok (.bipush (15), 2) := by decide +kernel
theorem d_M_close_7 : decode (rm_code mM_close) 7 = .ok (.if_icmp .le (5), 3) := by decide +kernel
theorem d_M_close_10 : decode (rm_code mM_close) 10 = .ok (.iconst (-1), 1) := by decide +kernel
theorem d_M_close_11 : decode (rm_code mM_close) 11 = .ok (.ireturn, 1) := by decide +kernel
theorem d_M_close_12 : decode (rm_code mM_close) 12 = .ok (.aload_n 0, 1) := by decide +kernel
theorem d_M_close_13 : decode (rm_code mM_close) 13 = .ok (.invokevirtual 269, 3) := by decide +kernel
theorem d_M_close_16 : decode (rm_code mM_close) 16 = .ok (.iload_n 1, 1) := by decide +kernel
theorem d_M_close_17 : decode (rm_code mM_close) 17 = .ok (.bipush (15), 2) := by decide +kernel
theorem d_M_close_19 : decode (rm_code mM_close) 19 = .ok (.if_icmp .ge (13), 3) := by decide +kernel
theorem d_M_close_22 : decode (rm_code mM_close) 22 = .ok (.aload_n 0, 1) := by decide +kernel
theorem d_M_close_23 : decode (rm_code mM_close) 23 = .ok (.aload_n 0, 1) := by decide +kernel
theorem d_M_close_24 : decode (rm_code mM_close) 24 = .ok (.iload_n 1, 1) := by decide +kernel
theorem d_M_close_25 : decode (rm_code mM_close) 25 = .ok (.invokevirtual 278, 3) := by decide +kernel
theorem d_M_close_28 : decode (rm_code mM_close) 28 = .ok (.invokevirtual 272, 3) := by decide +kernel
theorem d_M_close_31 : decode (rm_code mM_close) 31 = .ok (.ireturn, 1) := by decide +kernel
theorem d_M_close_32 : decode (rm_code mM_close) 32 = .ok (.iconst 0, 1) := by decide +kernel
theorem d_M_close_33 : decode (rm_code mM_close) 33 = .ok (.istore_n 2, 1) := by decide +kernel
theorem d_M_close_34 : decode (rm_code mM_close) 34 = .ok (.iconst 0, 1) := by decide +kernel
theorem d_M_close_35 : decode (rm_code mM_close) 35 = .ok (.istore_n 3, 1) := by decide +kernel
theorem d_M_close_36 : decode (rm_code mM_close) 36 = .ok (.iload_n 3, 1) := by decide +kernel
theorem d_M_close_37 : decode (rm_code mM_close) 37 = .ok (.bipush (15), 2) := by decide +kernel
theorem d_M_close_39 : decode (rm_code mM_close) 39 = .ok (.if_icmp .ge (26), 3) := by decide +kernel
theorem d_M_close_42 : decode (rm_code mM_close) 42 = .ok (.iload_n 2, 1) := by decide +kernel
theorem d_M_close_43 : decode (rm_code mM_close) 43 = .ok (.ifCond .ne (9), 3) := by decide +kernel
theorem d_M_close_46 : decode (rm_code mM_close) 46 = .ok (.aload_n 0, 1) := by decide +kernel
theorem d_M_close_47 : decode (rm_code mM_close) 47 = .ok (.iload_n 3, 1) := by decide +kernel
theorem d_M_close_48 : decode (rm_code mM_close) 48 = .ok (.invokevirtual 278, 3) := by decide +kernel
theorem d_M_close_51 : decode (rm_code mM_close) 51 = .ok (.istore_n 2, 1) := by decide +kernel
theorem d_M_close_52 : decode (rm_code mM_close) 52 = .ok (.aload_n 0, 1) := by decide +kernel
theorem d_M_close_53 : decode (rm_code mM_close) 53 = .ok (.getfield 248, 3) := by decide +kernel
theorem d_M_close_56 : decode (rm_code mM_close) 56 = .ok (.iload_n 3, 1) := by decide +kernel
theorem d_M_close_57 : decode (rm_code mM_close) 57 = .ok (.iconst 0, 1) := by decide +kernel
theorem d_M_close_58 : decode (rm_code mM_close) 58 = .ok (.iastore, 1) := by decide +kernel
theorem d_M_close_59 : decode (rm_code mM_close) 59 = .ok (.iinc 3 (1), 3) := by decide +kernel
theorem d_M_close_62 : decode (rm_code mM_close) 62 = .ok (.goto (-26), 3) := by decide +kernel
theorem d_M_close_65 : decode (rm_code mM_close) 65 = .ok (.aload_n 0, 1) := by decide +kernel
theorem d_M_close_66 : decode (rm_code mM_close) 66 = .ok (.iload_n 2, 1) := by decide +kernel
theorem d_M_close_67 : decode (rm_code mM_close) 67 = .ok (.invokevirtual 272, 3) := by decide +kernel
theorem d_M_close_70 : decode (rm_code mM_close) 70 = .ok (.ireturn, 1) := by decide +kernel
theorem p_M_close_0 {S : rz_S} {K : Int32 → rz_S → Prop} {a1 : Int32} (w : ((a1 < 0 → K (-1) S) ∧ (¬ a1 < 0 → ((a1 ≤ 15 → rz_ev mM_begins [.ref 116] S (rz_v (fun Sq3 => ((15 ≤ a1 → rz mM_close 36 [(0, .ref 116), (2, .int 0), (3, .int 0)] [] Sq3 (rz_i K)) ∧ (¬ 15 ≤ a1 → rz_ev mM_shuts [.ref 116, .int a1] Sq3 (rz_i (fun xq5 Sq5 => rz_ev mM_ends [.ref 116, .int xq5] Sq5 (rz_i (fun xq6 Sq6 => K xq6 Sq6))))))))) ∧ (¬ a1 ≤ 15 → K (-1) S))))) : rz mM_close 0 [(0, .ref 116), (1, .int a1)] [] S (rz_i K) := by
  refine rz_pure (pc' := 1) d_M_close_0 rfl ?_
  refine rz_iflt (tgt := 10) d_M_close_1 rfl (fun b1 => ?_) (fun b1 => ?_)
  · skip
    refine rz_iconst (v := -1) d_M_close_10 (by decide) ?_
    exact rz_ireti d_M_close_11 rfl rfl (w.1 b1)
  · skip
    refine rz_pure (pc' := 5) d_M_close_4 rfl ?_
    refine rz_bipush (v := 15) d_M_close_5 (by decide) ?_
    refine rz_icmple (tgt := 12) d_M_close_7 rfl (fun b2 => ?_) (fun b2 => ?_)
    · skip
      refine rz_pure (pc' := 13) d_M_close_12 rfl ?_
      refine rz_callVv (t := []) d_M_close_13 w_12_269 rfl rfl rfl ((w.2 b1).1 b2) (fun Sq3 q3 => ?_)
      refine rz_pure (pc' := 17) d_M_close_16 rfl ?_
      refine rz_bipush (v := 15) d_M_close_17 (by decide) ?_
      refine rz_icmpge (tgt := 32) d_M_close_19 rfl (fun b4 => ?_) (fun b4 => ?_)
      · skip
        refine rz_iconst (v := 0) d_M_close_32 (by decide) ?_
        refine rz_pure (pc' := 34) (l' := [(2, .int 0), (0, .ref 116), (1, .int a1)]) d_M_close_33 rfl ?_
        refine rz_iconst (v := 0) d_M_close_34 (by decide) ?_
        refine rz_pure (pc' := 36) (l' := [(3, .int 0), (2, .int 0), (0, .ref 116), (1, .int a1)]) d_M_close_35 rfl ?_
        exact rz_pick (ks := [0, 2, 3]) (l := [(0, .ref 116), (2, .int 0), (3, .int 0)]) rfl rfl (by decide) rfl (q3.1 b4)
      · skip
        refine rz_pure (pc' := 23) d_M_close_22 rfl ?_
        refine rz_pure (pc' := 24) d_M_close_23 rfl ?_
        refine rz_pure (pc' := 25) d_M_close_24 rfl ?_
        refine rz_callVi (t := [.int a1]) d_M_close_25 w_12_278 rfl rfl rfl (q3.2 b4) (fun xq5 Sq5 q5 => ?_)
        refine rz_callVi (t := [.int xq5]) d_M_close_28 w_12_272 rfl rfl rfl q5 (fun xq6 Sq6 q6 => ?_)
        exact rz_ireti d_M_close_31 rfl rfl q6
    · skip
      refine rz_iconst (v := -1) d_M_close_10 (by decide) ?_
      exact rz_ireti d_M_close_11 rfl rfl ((w.2 b1).2 b2)
theorem p_M_close_36 {S : rz_S} {K : Int32 → rz_S → Prop} {a2 : Int32} {a3 : Int32} (w : ((15 ≤ a3 → rz_ev mM_ends [.ref 116, .int a2] S (rz_i (fun xq2 Sq2 => K xq2 Sq2))) ∧ (¬ 15 ≤ a3 → ((a2 = 0 → rz_ev mM_shuts [.ref 116, .int a3] S (rz_i (fun xq4 Sq4 => rx_in a3 15 = true ∧ rz mM_close 36 [(0, .ref 116), (2, .int xq4), (3, .int (a3 + 1))] [] (rz_fA Sq4 126 (upd (Sq4.1 126) a3.toNatClampNeg 0)) (rz_i K)))) ∧ (¬ a2 = 0 → rx_in a3 15 = true ∧ rz mM_close 36 [(0, .ref 116), (2, .int a2), (3, .int (a3 + 1))] [] (rz_fA S 126 (upd (S.1 126) a3.toNatClampNeg 0)) (rz_i K)))))) : rz mM_close 36 [(0, .ref 116), (2, .int a2), (3, .int a3)] [] S (rz_i K) := by
  refine rz_pure (pc' := 37) d_M_close_36 rfl ?_
  refine rz_bipush (v := 15) d_M_close_37 (by decide) ?_
  refine rz_icmpge (tgt := 65) d_M_close_39 rfl (fun b1 => ?_) (fun b1 => ?_)
  · skip
    refine rz_pure (pc' := 66) d_M_close_65 rfl ?_
    refine rz_pure (pc' := 67) d_M_close_66 rfl ?_
    refine rz_callVi (t := [.int a2]) d_M_close_67 w_12_272 rfl rfl rfl (w.1 b1) (fun xq2 Sq2 q2 => ?_)
    exact rz_ireti d_M_close_70 rfl rfl q2
  · skip
    refine rz_pure (pc' := 43) d_M_close_42 rfl ?_
    refine rz_ifne (tgt := 52) d_M_close_43 rfl (fun b3 => ?_) (fun b3 => ?_)
    · skip
      refine rz_pure (pc' := 53) d_M_close_52 rfl ?_
      refine rz_getr d_M_close_53 f_12_248 rfl rfl ?_
      refine rz_pure (pc' := 57) d_M_close_56 rfl ?_
      refine rz_iconst (v := 0) d_M_close_57 (by decide) ?_
      refine rz_iastv (F := S.1 126) (i := a3.toNatClampNeg) d_M_close_58 rfl ((w.2 b1).2 b3).1 rfl rfl ?_
      refine rz_pure (pc' := 62) (l' := [(3, .int (a3 + 1)), (0, .ref 116), (2, .int a2)]) d_M_close_59 rfl ?_
      refine rz_pure (pc' := 36) d_M_close_62 rfl ?_
      exact rz_pick (ks := [0, 2, 3]) (l := [(0, .ref 116), (2, .int a2), (3, .int (a3 + 1))]) rfl rfl (by decide) rfl ((w.2 b1).2 b3).2
    · skip
      refine rz_pure (pc' := 47) d_M_close_46 rfl ?_
      refine rz_pure (pc' := 48) d_M_close_47 rfl ?_
      refine rz_callVi (t := [.int a3]) d_M_close_48 w_12_278 rfl rfl rfl ((w.2 b1).1 b3) (fun xq4 Sq4 q4 => ?_)
      refine rz_pure (pc' := 52) (l' := [(2, .int xq4), (0, .ref 116), (3, .int a3)]) d_M_close_51 rfl ?_
      refine rz_pure (pc' := 53) d_M_close_52 rfl ?_
      refine rz_getr d_M_close_53 f_12_248 rfl rfl ?_
      refine rz_pure (pc' := 57) d_M_close_56 rfl ?_
      refine rz_iconst (v := 0) d_M_close_57 (by decide) ?_
      refine rz_iastv (F := Sq4.1 126) (i := a3.toNatClampNeg) d_M_close_58 rfl q4.1 rfl rfl ?_
      refine rz_pure (pc' := 62) (l' := [(3, .int (a3 + 1)), (2, .int xq4), (0, .ref 116)]) d_M_close_59 rfl ?_
      refine rz_pure (pc' := 36) d_M_close_62 rfl ?_
      exact rz_pick (ks := [0, 2, 3]) (l := [(0, .ref 116), (2, .int xq4), (3, .int (a3 + 1))]) rfl rfl (by decide) rfl q4.2
theorem d_M_shutsAll_0 : decode (rm_code mM_shutsAll) 0 = .ok (.iconst 0, 1) := by decide +kernel
theorem d_M_shutsAll_1 : decode (rm_code mM_shutsAll) 1 = .ok (.istore_n 1, 1) := by decide +kernel
theorem d_M_shutsAll_2 : decode (rm_code mM_shutsAll) 2 = .ok (.iload_n 1, 1) := by decide +kernel
theorem d_M_shutsAll_3 : decode (rm_code mM_shutsAll) 3 = .ok (.bipush (15), 2) := by decide +kernel
theorem d_M_shutsAll_5 : decode (rm_code mM_shutsAll) 5 = .ok (.if_icmp .ge (16), 3) := by decide +kernel
theorem d_M_shutsAll_8 : decode (rm_code mM_shutsAll) 8 = .ok (.aload_n 0, 1) := by decide +kernel
theorem d_M_shutsAll_9 : decode (rm_code mM_shutsAll) 9 = .ok (.getfield 248, 3) := by decide +kernel
theorem d_M_shutsAll_12 : decode (rm_code mM_shutsAll) 12 = .ok (.iload_n 1, 1) := by decide +kernel
theorem d_M_shutsAll_13 : decode (rm_code mM_shutsAll) 13 = .ok (.iconst 0, 1) := by decide +kernel
theorem d_M_shutsAll_14 : decode (rm_code mM_shutsAll) 14 = .ok (.iastore, 1) := by decide +kernel
theorem d_M_shutsAll_15 : decode (rm_code mM_shutsAll) 15 = .ok (.iinc 1 (1), 3) := by decide +kernel
theorem d_M_shutsAll_18 : decode (rm_code mM_shutsAll) 18 = .ok (.goto (-16), 3) := by decide +kernel
theorem d_M_shutsAll_21 : decode (rm_code mM_shutsAll) 21 = .ok (.return_, 1) := by decide +kernel
theorem p_M_shutsAll_0 {S : rz_S} {K : rz_S → Prop} (w : rz mM_shutsAll 2 [(0, .ref 116), (1, .int 0)] [] S (rz_v K)) : rz mM_shutsAll 0 [(0, .ref 116)] [] S (rz_v K) := by
  refine rz_iconst (v := 0) d_M_shutsAll_0 (by decide) ?_
  refine rz_pure (pc' := 2) (l' := [(1, .int 0), (0, .ref 116)]) d_M_shutsAll_1 rfl ?_
  exact rz_pick (ks := [0, 1]) (l := [(0, .ref 116), (1, .int 0)]) rfl rfl (by decide) rfl w
theorem p_M_shutsAll_2 {S : rz_S} {K : rz_S → Prop} {a1 : Int32} (w : ((15 ≤ a1 → K S) ∧ (¬ 15 ≤ a1 → rx_in a1 15 = true ∧ rz mM_shutsAll 2 [(0, .ref 116), (1, .int (a1 + 1))] [] (rz_fA S 126 (upd (S.1 126) a1.toNatClampNeg 0)) (rz_v K)))) : rz mM_shutsAll 2 [(0, .ref 116), (1, .int a1)] [] S (rz_v K) := by
  refine rz_pure (pc' := 3) d_M_shutsAll_2 rfl ?_
  refine rz_bipush (v := 15) d_M_shutsAll_3 (by decide) ?_
  refine rz_icmpge (tgt := 21) d_M_shutsAll_5 rfl (fun b1 => ?_) (fun b1 => ?_)
  · skip
    exact rz_vretv d_M_shutsAll_21 rfl (w.1 b1)
  · skip
    refine rz_pure (pc' := 9) d_M_shutsAll_8 rfl ?_
    refine rz_getr d_M_shutsAll_9 f_12_248 rfl rfl ?_
    refine rz_pure (pc' := 13) d_M_shutsAll_12 rfl ?_
    refine rz_iconst (v := 0) d_M_shutsAll_13 (by decide) ?_
    refine rz_iastv (F := S.1 126) (i := a1.toNatClampNeg) d_M_shutsAll_14 rfl (w.2 b1).1 rfl rfl ?_
    refine rz_pure (pc' := 18) (l' := [(1, .int (a1 + 1)), (0, .ref 116)]) d_M_shutsAll_15 rfl ?_
    refine rz_pure (pc' := 2) d_M_shutsAll_18 rfl ?_
    exact rz_pick (ks := [0, 1]) (l := [(0, .ref 116), (1, .int (a1 + 1))]) rfl rfl (by decide) rfl (w.2 b1).2
theorem d_M_gives_0 : decode (rm_code mM_gives) 0 = .ok (.aload_n 0, 1) := by decide +kernel
theorem d_M_gives_1 : decode (rm_code mM_gives) 1 = .ok (.getfield 368, 3) := by decide +kernel
theorem d_M_gives_4 : decode (rm_code mM_gives) 4 = .ok (.aload_n 0, 1) := by decide +kernel
theorem d_M_gives_5 : decode (rm_code mM_gives) 5 = .ok (.getfield 371, 3) := by decide +kernel
theorem d_M_gives_8 : decode (rm_code mM_gives) 8 = .ok (.iload_n 1, 1) := by decide +kernel
theorem d_M_gives_9 : decode (rm_code mM_gives) 9 = .ok (.iastore, 1) := by decide +kernel
theorem d_M_gives_10 : decode (rm_code mM_gives) 10 = .ok (.aload_n 0, 1) := by decide +kernel
theorem d_M_gives_11 : decode (rm_code mM_gives) 11 = .ok (.aload_n 0, 1) := by decide +kernel
theorem d_M_gives_12 : decode (rm_code mM_gives) 12 = .ok (.getfield 371, 3) := by decide +kernel
theorem d_M_gives_15 : decode (rm_code mM_gives) 15 = .ok (.iconst 1, 1) := by decide +kernel
theorem d_M_gives_16 : decode (rm_code mM_gives) 16 = .ok (.iadd, 1) := by decide +kernel
theorem d_M_gives_17 : decode (rm_code mM_gives) 17 = .ok (.putfield 371, 3) := by decide +kernel
theorem d_M_gives_20 : decode (rm_code mM_gives) 20 = .ok (.return_, 1) := by decide +kernel
theorem p_M_gives_0 {S : rz_S} {K : rz_S → Prop} {a1 : Int32} (w : rx_in (S.2 116 67) 300 = true ∧ K (rz_uI (rz_fA S 152 (upd (S.1 152) ((S.2 116 67).toNatClampNeg) a1)) 116 67 ((S.2 116 67) + 1))) : rz mM_gives 0 [(0, .ref 116), (1, .int a1)] [] S (rz_v K) := by
  refine rz_pure (pc' := 1) d_M_gives_0 rfl ?_
  refine rz_getr d_M_gives_1 f_12_368 rfl rfl ?_
  refine rz_pure (pc' := 5) d_M_gives_4 rfl ?_
  refine rz_getiv (v := S.2 116 67) d_M_gives_5 f_12_371 rfl rfl rfl ?_
  refine rz_pure (pc' := 9) d_M_gives_8 rfl ?_
  refine rz_iastv (F := S.1 152) (i := (S.2 116 67).toNatClampNeg) d_M_gives_9 rfl w.1 rfl rfl ?_
  refine rz_pure (pc' := 11) d_M_gives_10 rfl ?_
  refine rz_pure (pc' := 12) d_M_gives_11 rfl ?_
  refine rz_getiv (v := S.2 116 67) d_M_gives_12 f_12_371 rfl rfl rfl ?_
  refine rz_iconst (v := 1) d_M_gives_15 (by decide) ?_
  refine rz_iadd d_M_gives_16 ?_
  refine rz_puti d_M_gives_17 f_12_371 rfl rfl rfl ?_
  exact rz_vretv d_M_gives_20 rfl w.2
