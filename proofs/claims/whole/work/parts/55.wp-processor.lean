/-! what each block of the code asks (printed by wpgen.py) -/
theorem d_Processor_set_0 : decode (rm_code mProcessor_set) 0 = .ok (.aload_n 0, 1) := by decide +kernel
theorem d_Processor_set_1 : decode (rm_code mProcessor_set) 1 = .ok (.getfield 9, 3) := by decide +kernel
theorem d_Processor_set_4 : decode (rm_code mProcessor_set) 4 = .ok (.iload_n 1, 1) := by decide +kernel
theorem d_Processor_set_5 : decode (rm_code mProcessor_set) 5 = .ok (.sipush (2047), 3) := by decide +kernel
theorem d_Processor_set_8 : decode (rm_code mProcessor_set) 8 = .ok (.iand, 1) := by decide +kernel
theorem d_Processor_set_9 : decode (rm_code mProcessor_set) 9 = .ok (.iload_n 2, 1) := by decide +kernel
theorem d_Processor_set_10 : decode (rm_code mProcessor_set) 10 = .ok (.sipush (255), 3) := by decide +kernel
theorem d_Processor_set_13 : decode (rm_code mProcessor_set) 13 = .ok (.iand, 1) := by decide +kernel
theorem d_Processor_set_14 : decode (rm_code mProcessor_set) 14 = .ok (.iastore, 1) := by decide +kernel
theorem d_Processor_set_15 : decode (rm_code mProcessor_set) 15 = .ok (.return_, 1) := by decide +kernel
theorem p_Processor_set_0 {S : rz_S} {K : rz_S → Prop} {a1 : Int32} {a2 : Int32} (w : rx_in (a1 &&& 2047) 2048 = true ∧ K (rz_fA S 38 (upd (S.1 38) ((a1 &&& 2047).toNatClampNeg) (a2 &&& 255)))) : rz mProcessor_set 0 [(0, .ref 37), (1, .int a1), (2, .int a2)] [] S (rz_v K) := by
  refine rz_pure (pc' := 1) d_Processor_set_0 rfl ?_
  refine rz_getr d_Processor_set_1 f_7_9 rfl rfl ?_
  refine rz_pure (pc' := 5) d_Processor_set_4 rfl ?_
  refine rz_sipush (v := 2047) d_Processor_set_5 (by decide) ?_
  refine rz_iand d_Processor_set_8 ?_
  refine rz_pure (pc' := 10) d_Processor_set_9 rfl ?_
  refine rz_sipush (v := 255) d_Processor_set_10 (by decide) ?_
  refine rz_iand d_Processor_set_13 ?_
  refine rz_iastv (F := S.1 38) (i := (a1 &&& 2047).toNatClampNeg) d_Processor_set_14 rfl w.1 rfl rfl ?_
  exact rz_vretv d_Processor_set_15 rfl w.2
theorem p_Processor_get_0 {S : rz_S} {K : Int32 → rz_S → Prop} {a1 : Int32} (w : rx_in (a1 &&& 2047) 2048 = true ∧ K (S.1 38 ((a1 &&& 2047).toNatClampNeg)) S) : rz mProcessor_get 0 [(0, .ref 37), (1, .int a1)] [] S (rz_i K) := by
  refine rz_pure (pc' := 1) d_Processor_get_0 rfl ?_
  refine rz_getr d_Processor_get_1 f_7_9 rfl rfl ?_
  refine rz_pure (pc' := 5) d_Processor_get_4 rfl ?_
  refine rz_sipush (v := 2047) d_Processor_get_5 (by decide) ?_
  refine rz_iand d_Processor_get_8 ?_
  refine rz_ialdv (F := S.1 38) (i := (a1 &&& 2047).toNatClampNeg) d_Processor_get_9 rfl w.1 rfl rfl ?_
  exact rz_ireti d_Processor_get_10 rfl rfl w.2
theorem d_Processor_run_0 : decode (rm_code mProcessor_run) 0 = .ok (.aload_n 0, 1) := by decide +kernel
theorem d_Processor_run_1 : decode (rm_code mProcessor_run) 1 = .ok (.iload_n 1, 1) := by decide +kernel
theorem d_Processor_run_2 : decode (rm_code mProcessor_run) 2 = .ok (.invokevirtual 19, 3) := by decide +kernel
theorem d_Processor_run_5 : decode (rm_code mProcessor_run) 5 = .ok (.iconst 0, 1) := by decide +kernel
theorem d_Processor_run_6 : decode (rm_code mProcessor_run) 6 = .ok (.istore_n 2, 1) := by decide +kernel
theorem d_Processor_run_7 : decode (rm_code mProcessor_run) 7 = .ok (.iload_n 2, 1) := by decide +kernel
theorem d_Processor_run_8 : decode (rm_code mProcessor_run) 8 = .ok (.sipush (10000), 3) := by decide +kernel
theorem d_Processor_run_11 : decode (rm_code mProcessor_run) 11 = .ok (.if_icmp .ge (117), 3) := by decide +kernel
theorem d_Processor_run_14 : decode (rm_code mProcessor_run) 14 = .ok (.aload_n 0, 1) := by decide +kernel
theorem d_Processor_run_15 : decode (rm_code mProcessor_run) 15 = .ok (.getfield 42, 3) := by decide +kernel
theorem d_Processor_run_18 : decode (rm_code mProcessor_run) 18 = .ok (.sipush (10000), 3) := by decide +kernel
theorem d_Processor_run_21 : decode (rm_code mProcessor_run) 21 = .ok (.if_icmp .ge (107), 3) := by decide +kernel
theorem d_Processor_run_24 : decode (rm_code mProcessor_run) 24 = .ok (.aload_n 0, 1) := by decide +kernel
theorem d_Processor_run_25 : decode (rm_code mProcessor_run) 25 = .ok (.aload_n 0, 1) := by decide +kernel
theorem d_Processor_run_26 : decode (rm_code mProcessor_run) 26 = .ok (.getfield 39, 3) := by decide +kernel
theorem d_Processor_run_29 : decode (rm_code mProcessor_run) 29 = .ok (.invokevirtual 45, 3) := by decide +kernel
theorem d_Processor_run_32 : decode (rm_code mProcessor_run) 32 = .ok (.sipush (255), 3) := by decide +kernel
theorem d_Processor_run_35 : decode (rm_code mProcessor_run) 35 = .ok (.iand, 1) := by decide +kernel
theorem d_Processor_run_36 : decode (rm_code mProcessor_run) 36 = .ok (.istore_n 3, 1) := by decide +kernel
theorem d_Processor_run_37 : decode (rm_code mProcessor_run) 37 = .ok (.getstatic 49, 3) := by decide +kernel
theorem d_Processor_run_40 : decode (rm_code mProcessor_run) 40 = .ok (.iload_n 3, 1) := by decide +kernel
theorem d_Processor_run_41 : decode (rm_code mProcessor_run) 41 = .ok (.iaload, 1) := by decide +kernel
theorem d_Processor_run_42 : decode (rm_code mProcessor_run) 42 = .ok (.istore 4, 2) := by decide +kernel
theorem d_Processor_run_44 : decode (rm_code mProcessor_run) 44 = .ok (.iload 4, 2) := by decide +kernel
theorem d_Processor_run_46 : decode (rm_code mProcessor_run) 46 = .ok (.bipush (56), 2) := by decide +kernel
theorem d_Processor_run_48 : decode (rm_code mProcessor_run) 48 = .ok (.if_icmp .ne (19), 3) := by decide +kernel
theorem d_Processor_run_51 : decode (rm_code mProcessor_run) 51 = .ok (.aload_n 0, 1) := by decide +kernel
theorem d_Processor_run_52 : decode (rm_code mProcessor_run) 52 = .ok (.dup, 1) := by decide +kernel
theorem d_Processor_run_53 : decode (rm_code mProcessor_run) 53 = .ok (.getfield 42, 3) := by decide +kernel
theorem d_Processor_run_56 : decode (rm_code mProcessor_run) 56 = .ok (.getstatic 52, 3) := by decide +kernel
theorem d_Processor_run_59 : decode (rm_code mProcessor_run) 59 = .ok (.iload_n 3, 1) := by decide +kernel
theorem d_Processor_run_60 : decode (rm_code mProcessor_run) 60 = .ok (.iaload, 1) := by decide +kernel
theorem d_Processor_run_61 : decode (rm_code mProcessor_run) 61 = .ok (.iadd, 1) := by decide +kernel
theorem d_Processor_run_62 : decode (rm_code mProcessor_run) 62 = .ok (.putfield 42, 3) := by decide +kernel
theorem d_Processor_run_65 : decode (rm_code mProcessor_run) 65 = .ok (.iconst 0, 1) := by decide +kernel
theorem d_Processor_run_66 : decode (rm_code mProcessor_run) 66 = .ok (.ireturn, 1) := by decide +kernel
theorem d_Processor_run_67 : decode (rm_code mProcessor_run) 67 = .ok (.iload 4, 2) := by decide +kernel
theorem d_Processor_run_69 : decode (rm_code mProcessor_run) 69 = .ok (.ifCond .ne (5), 3) := by decide +kernel
theorem d_Processor_run_72 : decode (rm_code mProcessor_run) 72 = .ok (.iconst 1, 1) := by decide +kernel
theorem d_Processor_run_73 : decode (rm_code mProcessor_run) 73 = .ok (.ireturn, 1) := by decide +kernel
theorem d_Processor_run_74 : decode (rm_code mProcessor_run) 74 = .ok (.aload_n 0, 1) := by decide +kernel
theorem d_Processor_run_75 : decode (rm_code mProcessor_run) 75 = .ok (.aload_n 0, 1) := by decide +kernel
theorem d_Processor_run_76 : decode (rm_code mProcessor_run) 76 = .ok (.getfield 39, 3) := by decide +kernel
theorem d_Processor_run_79 : decode (rm_code mProcessor_run) 79 = .ok (.iconst 1, 1) := by decide +kernel
theorem d_Processor_run_80 : decode (rm_code mProcessor_run) 80 = .ok (.iadd, 1) := by decide +kernel
theorem d_Processor_run_81 : decode (rm_code mProcessor_run) 81 = .ok (.sipush (2047), 3) := by decide +kernel
theorem d_Processor_run_84 : decode (rm_code mProcessor_run) 84 = .ok (.iand, 1) := by decide +kernel
theorem d_Processor_run_85 : decode (rm_code mProcessor_run) 85 = .ok (.putfield 39, 3) := by decide +kernel
theorem d_Processor_run_88 : decode (rm_code mProcessor_run) 88 = .ok (.aload_n 0, 1) := by decide +kernel
theorem d_Processor_run_89 : decode (rm_code mProcessor_run) 89 = .ok (.dup, 1) := by decide +kernel
theorem d_Processor_run_90 : decode (rm_code mProcessor_run) 90 = .ok (.getfield 42, 3) := by decide +kernel
theorem d_Processor_run_93 : decode (rm_code mProcessor_run) 93 = .ok (.getstatic 52, 3) := by decide +kernel
theorem d_Processor_run_96 : decode (rm_code mProcessor_run) 96 = .ok (.iload_n 3, 1) := by decide +kernel
theorem d_Processor_run_97 : decode (rm_code mProcessor_run) 97 = .ok (.iaload, 1) := by decide +kernel
theorem d_Processor_run_98 : decode (rm_code mProcessor_run) 98 = .ok (.iadd, 1) := by decide +kernel
theorem d_Processor_run_99 : decode (rm_code mProcessor_run) 99 = .ok (.putfield 42, 3) := by decide +kernel
theorem d_Processor_run_102 : decode (rm_code mProcessor_run) 102 = .ok (.aload_n 0, 1) := by decide +kernel
theorem d_Processor_run_103 : decode (rm_code mProcessor_run) 103 = .ok (.getstatic 55, 3) := by decide +kernel
theorem d_Processor_run_106 : decode (rm_code mProcessor_run) 106 = .ok (.iload_n 3, 1) := by decide +kernel
theorem d_Processor_run_107 : decode (rm_code mProcessor_run) 107 = .ok (.iaload, 1) := by decide +kernel
theorem d_Processor_run_108 : decode (rm_code mProcessor_run) 108 = .ok (.invokevirtual 58, 3) := by decide +kernel
theorem d_Processor_run_111 : decode (rm_code mProcessor_run) 111 = .ok (.aload_n 0, 1) := by decide +kernel
theorem d_Processor_run_112 : decode (rm_code mProcessor_run) 112 = .ok (.iload 4, 2) := by decide +kernel
theorem d_Processor_run_114 : decode (rm_code mProcessor_run) 114 = .ok (.getstatic 55, 3) := by decide +kernel
theorem d_Processor_run_117 : decode (rm_code mProcessor_run) 117 = .ok (.iload_n 3, 1) := by decide +kernel
theorem d_Processor_run_118 : decode (rm_code mProcessor_run) 118 = .ok (.iaload, 1) := by decide +kernel
theorem d_Processor_run_119 : decode (rm_code mProcessor_run) 119 = .ok (.invokevirtual 61, 3) := by decide +kernel
theorem d_Processor_run_122 : decode (rm_code mProcessor_run) 122 = .ok (.iinc 2 (1), 3) := by decide +kernel
theorem d_Processor_run_125 : decode (rm_code mProcessor_run) 125 = .ok (.goto (-118), 3) := by decide +kernel
theorem d_Processor_run_128 : decode (rm_code mProcessor_run) 128 = .ok (.iconst 2, 1) := by decide +kernel
theorem d_Processor_run_129 : decode (rm_code mProcessor_run) 129 = .ok (.ireturn, 1) := by decide +kernel
theorem p_Processor_run_0 {S : rz_S} {K : Int32 → rz_S → Prop} {a1 : Int32} (w : rz_ev mProcessor_begin [.ref 37, .int a1] S (rz_v (fun Sq1 => rz mProcessor_run 7 [(0, .ref 37), (2, .int 0)] [] Sq1 (rz_i K)))) : rz mProcessor_run 0 [(0, .ref 37), (1, .int a1)] [] S (rz_i K) := by
  refine rz_pure (pc' := 1) d_Processor_run_0 rfl ?_
  refine rz_pure (pc' := 2) d_Processor_run_1 rfl ?_
  refine rz_callVv (t := [.int a1]) d_Processor_run_2 w_7_19 rfl rfl rfl w (fun Sq1 q1 => ?_)
  refine rz_iconst (v := 0) d_Processor_run_5 (by decide) ?_
  refine rz_pure (pc' := 7) (l' := [(2, .int 0), (0, .ref 37), (1, .int a1)]) d_Processor_run_6 rfl ?_
  exact rz_pick (ks := [0, 2]) (l := [(0, .ref 37), (2, .int 0)]) rfl rfl (by decide) rfl q1
theorem p_Processor_run_7 {S : rz_S} {K : Int32 → rz_S → Prop} {a2 : Int32} (w : ((10000 ≤ a2 → K 2 S) ∧ (¬ 10000 ≤ a2 → ((10000 ≤ S.2 37 6 → K 2 S) ∧ (¬ 10000 ≤ S.2 37 6 → rz_ev mProcessor_get [.ref 37, .int (S.2 37 5)] S (rz_i (fun xq3 Sq3 => rx_in (xq3 &&& 255) 256 = true ∧ ((sa_v 4 ((xq3 &&& 255).toNatClampNeg) = 56 → K 0 (rz_uI Sq3 37 6 ((Sq3.2 37 6) + (sa_v 5 ((xq3 &&& 255).toNatClampNeg))))) ∧ (¬ sa_v 4 ((xq3 &&& 255).toNatClampNeg) = 56 → ((sa_v 4 ((xq3 &&& 255).toNatClampNeg) = 0 → K 1 Sq3) ∧ (¬ sa_v 4 ((xq3 &&& 255).toNatClampNeg) = 0 → rz_ev mProcessor_locate [.ref 37, .int (sa_v 6 ((xq3 &&& 255).toNatClampNeg))] (rz_uI (rz_uI Sq3 37 5 (((Sq3.2 37 5) + 1) &&& 2047)) 37 6 ((Sq3.2 37 6) + (sa_v 5 ((xq3 &&& 255).toNatClampNeg)))) (rz_v (fun Sq6 => rz_ev mProcessor_perform [.ref 37, .int (sa_v 4 ((xq3 &&& 255).toNatClampNeg)), .int (sa_v 6 ((xq3 &&& 255).toNatClampNeg))] Sq6 (rz_v (fun Sq7 => rz mProcessor_run 7 [(0, .ref 37), (2, .int (a2 + 1))] [] Sq7 (rz_i K)))))))))))))))) : rz mProcessor_run 7 [(0, .ref 37), (2, .int a2)] [] S (rz_i K) := by
  refine rz_pure (pc' := 8) d_Processor_run_7 rfl ?_
  refine rz_sipush (v := 10000) d_Processor_run_8 (by decide) ?_
  refine rz_icmpge (tgt := 128) d_Processor_run_11 rfl (fun b1 => ?_) (fun b1 => ?_)
  · skip
    refine rz_iconst (v := 2) d_Processor_run_128 (by decide) ?_
    exact rz_ireti d_Processor_run_129 rfl rfl (w.1 b1)
  · skip
    refine rz_pure (pc' := 15) d_Processor_run_14 rfl ?_
    refine rz_getiv (v := S.2 37 6) d_Processor_run_15 f_7_42 rfl rfl rfl ?_
    refine rz_sipush (v := 10000) d_Processor_run_18 (by decide) ?_
    refine rz_icmpge (tgt := 128) d_Processor_run_21 rfl (fun b2 => ?_) (fun b2 => ?_)
    · skip
      refine rz_iconst (v := 2) d_Processor_run_128 (by decide) ?_
      exact rz_ireti d_Processor_run_129 rfl rfl ((w.2 b1).1 b2)
    · skip
      refine rz_pure (pc' := 25) d_Processor_run_24 rfl ?_
      refine rz_pure (pc' := 26) d_Processor_run_25 rfl ?_
      refine rz_getiv (v := S.2 37 5) d_Processor_run_26 f_7_39 rfl rfl rfl ?_
      refine rz_callVi (t := [.int (S.2 37 5)]) d_Processor_run_29 w_7_45 rfl rfl rfl ((w.2 b1).2 b2) (fun xq3 Sq3 q3 => ?_)
      refine rz_sipush (v := 255) d_Processor_run_32 (by decide) ?_
      refine rz_iand d_Processor_run_35 ?_
      refine rz_pure (pc' := 37) (l' := [(3, .int (xq3 &&& 255)), (0, .ref 37), (2, .int a2)]) d_Processor_run_36 rfl ?_
      refine rz_stat (v := .ref 3000004) d_Processor_run_37 rfl ?_
      refine rz_pure (pc' := 41) d_Processor_run_40 rfl ?_
      refine rz_staldv (j := 4) (n := 256) (i := (xq3 &&& 255).toNatClampNeg) d_Processor_run_41 rfl rfl rfl q3.1 rfl ?_
      refine rz_pure (pc' := 44) (l' := [(4, .int (sa_v 4 ((xq3 &&& 255).toNatClampNeg))), (3, .int (xq3 &&& 255)), (0, .ref 37), (2, .int a2)]) d_Processor_run_42 rfl ?_
      refine rz_pure (pc' := 46) d_Processor_run_44 rfl ?_
      refine rz_bipush (v := 56) d_Processor_run_46 (by decide) ?_
      refine rz_icmpne (tgt := 67) d_Processor_run_48 rfl (fun b4 => ?_) (fun b4 => ?_)
      · skip
        refine rz_pure (pc' := 69) d_Processor_run_67 rfl ?_
        refine rz_ifne (tgt := 74) d_Processor_run_69 rfl (fun b5 => ?_) (fun b5 => ?_)
        · skip
          refine rz_pure (pc' := 75) d_Processor_run_74 rfl ?_
          refine rz_pure (pc' := 76) d_Processor_run_75 rfl ?_
          refine rz_getiv (v := Sq3.2 37 5) d_Processor_run_76 f_7_39 rfl rfl rfl ?_
          refine rz_iconst (v := 1) d_Processor_run_79 (by decide) ?_
          refine rz_iadd d_Processor_run_80 ?_
          refine rz_sipush (v := 2047) d_Processor_run_81 (by decide) ?_
          refine rz_iand d_Processor_run_84 ?_
          refine rz_puti d_Processor_run_85 f_7_39 rfl rfl rfl ?_
          refine rz_pure (pc' := 89) d_Processor_run_88 rfl ?_
          refine rz_pure (pc' := 90) d_Processor_run_89 rfl ?_
          refine rz_getiv (v := Sq3.2 37 6) d_Processor_run_90 f_7_42 rfl rfl ((rz_uI_n (fun h => absurd h.2 (by decide))).trans rfl) ?_
          refine rz_stat (v := .ref 3000005) d_Processor_run_93 rfl ?_
          refine rz_pure (pc' := 97) d_Processor_run_96 rfl ?_
          refine rz_staldv (j := 5) (n := 256) (i := (xq3 &&& 255).toNatClampNeg) d_Processor_run_97 rfl rfl rfl q3.1 rfl ?_
          refine rz_iadd d_Processor_run_98 ?_
          refine rz_puti d_Processor_run_99 f_7_42 rfl rfl rfl ?_
          refine rz_pure (pc' := 103) d_Processor_run_102 rfl ?_
          refine rz_stat (v := .ref 3000006) d_Processor_run_103 rfl ?_
          refine rz_pure (pc' := 107) d_Processor_run_106 rfl ?_
          refine rz_staldv (j := 6) (n := 256) (i := (xq3 &&& 255).toNatClampNeg) d_Processor_run_107 rfl rfl rfl q3.1 rfl ?_
          refine rz_callVv (t := [.int (sa_v 6 ((xq3 &&& 255).toNatClampNeg))]) d_Processor_run_108 w_7_58 rfl rfl rfl ((q3.2.2 b4).2 b5) (fun Sq6 q6 => ?_)
          refine rz_pure (pc' := 112) d_Processor_run_111 rfl ?_
          refine rz_pure (pc' := 114) d_Processor_run_112 rfl ?_
          refine rz_stat (v := .ref 3000006) d_Processor_run_114 rfl ?_
          refine rz_pure (pc' := 118) d_Processor_run_117 rfl ?_
          refine rz_staldv (j := 6) (n := 256) (i := (xq3 &&& 255).toNatClampNeg) d_Processor_run_118 rfl rfl rfl q3.1 rfl ?_
          refine rz_callVv (t := [.int (sa_v 6 ((xq3 &&& 255).toNatClampNeg)), .int (sa_v 4 ((xq3 &&& 255).toNatClampNeg))]) d_Processor_run_119 w_7_61 rfl rfl rfl q6 (fun Sq7 q7 => ?_)
          refine rz_pure (pc' := 125) (l' := [(2, .int (a2 + 1)), (4, .int (sa_v 4 ((xq3 &&& 255).toNatClampNeg))), (3, .int (xq3 &&& 255)), (0, .ref 37)]) d_Processor_run_122 rfl ?_
          refine rz_pure (pc' := 7) d_Processor_run_125 rfl ?_
          exact rz_pick (ks := [0, 2]) (l := [(0, .ref 37), (2, .int (a2 + 1))]) rfl rfl (by decide) rfl q7
        · skip
          refine rz_iconst (v := 1) d_Processor_run_72 (by decide) ?_
          exact rz_ireti d_Processor_run_73 rfl rfl ((q3.2.2 b4).1 b5)
      · skip
        refine rz_pure (pc' := 52) d_Processor_run_51 rfl ?_
        refine rz_pure (pc' := 53) d_Processor_run_52 rfl ?_
        refine rz_getiv (v := Sq3.2 37 6) d_Processor_run_53 f_7_42 rfl rfl rfl ?_
        refine rz_stat (v := .ref 3000005) d_Processor_run_56 rfl ?_
        refine rz_pure (pc' := 60) d_Processor_run_59 rfl ?_
        refine rz_staldv (j := 5) (n := 256) (i := (xq3 &&& 255).toNatClampNeg) d_Processor_run_60 rfl rfl rfl q3.1 rfl ?_
        refine rz_iadd d_Processor_run_61 ?_
        refine rz_puti d_Processor_run_62 f_7_42 rfl rfl rfl ?_
        refine rz_iconst (v := 0) d_Processor_run_65 (by decide) ?_
        exact rz_ireti d_Processor_run_66 rfl rfl (q3.2.1 b4)
theorem p_Processor_begin_0 {S : rz_S} {K : rz_S → Prop} {a1 : Int32} (w : K (rz_uI (rz_uI (rz_uI (rz_uI (rz_uI (rz_uI (rz_uI S 37 0 0) 37 1 0) 37 2 0) 37 3 255) 37 4 36) 37 5 (a1 &&& 2047)) 37 6 0)) : rz mProcessor_begin 0 [(0, .ref 37), (1, .int a1)] [] S (rz_v K) := by
  refine rz_pure (pc' := 1) d_Processor_begin_0 rfl ?_
  refine rz_iconst (v := 0) d_Processor_begin_1 (by decide) ?_
  refine rz_puti d_Processor_begin_2 f_7_30 rfl rfl rfl ?_
  refine rz_pure (pc' := 6) d_Processor_begin_5 rfl ?_
  refine rz_iconst (v := 0) d_Processor_begin_6 (by decide) ?_
  refine rz_puti d_Processor_begin_7 f_7_33 rfl rfl rfl ?_
  refine rz_pure (pc' := 11) d_Processor_begin_10 rfl ?_
  refine rz_iconst (v := 0) d_Processor_begin_11 (by decide) ?_
  refine rz_puti d_Processor_begin_12 f_7_36 rfl rfl rfl ?_
  refine rz_pure (pc' := 16) d_Processor_begin_15 rfl ?_
  refine rz_sipush (v := 255) d_Processor_begin_16 (by decide) ?_
  refine rz_puti d_Processor_begin_19 f_7_23 rfl rfl rfl ?_
  refine rz_pure (pc' := 23) d_Processor_begin_22 rfl ?_
  refine rz_bipush (v := 36) d_Processor_begin_23 (by decide) ?_
  refine rz_puti d_Processor_begin_25 f_7_27 rfl rfl rfl ?_
  refine rz_pure (pc' := 29) d_Processor_begin_28 rfl ?_
  refine rz_pure (pc' := 30) d_Processor_begin_29 rfl ?_
  refine rz_sipush (v := 2047) d_Processor_begin_30 (by decide) ?_
  refine rz_iand d_Processor_begin_33 ?_
  refine rz_puti d_Processor_begin_34 f_7_39 rfl rfl rfl ?_
  refine rz_pure (pc' := 38) d_Processor_begin_37 rfl ?_
  refine rz_iconst (v := 0) d_Processor_begin_38 (by decide) ?_
  refine rz_puti d_Processor_begin_39 f_7_42 rfl rfl rfl ?_
  exact rz_vretv d_Processor_begin_42 rfl w
theorem d_Processor_locate_0 : decode (rm_code mProcessor_locate) 0 = .ok (.aload_n 0, 1) := by decide +kernel
theorem d_Processor_locate_1 : decode (rm_code mProcessor_locate) 1 = .ok (.iconst 0, 1) := by decide +kernel
theorem d_Processor_locate_2 : decode (rm_code mProcessor_locate) 2 = .ok (.putfield 65, 3) := by decide +kernel
theorem d_Processor_locate_5 : decode (rm_code mProcessor_locate) 5 = .ok (.iload_n 1, 1) := by decide +kernel
theorem d_Processor_locate_6 : decode (rm_code mProcessor_locate) 6 = .ok (.tableswitch (310) (2) (12) #[(58), (83), (94), (114), (134), (145), (160), (175), (195), (214), (273)], 58) := by decide +kernel
theorem d_Processor_locate_64 : decode (rm_code mProcessor_locate) 64 = .ok (.aload_n 0, 1) := by decide +kernel
theorem d_Processor_locate_65 : decode (rm_code mProcessor_locate) 65 = .ok (.aload_n 0, 1) := by decide +kernel
theorem d_Processor_locate_66 : decode (rm_code mProcessor_locate) 66 = .ok (.getfield 39, 3) := by decide +kernel
theorem d_Processor_locate_69 : decode (rm_code mProcessor_locate) 69 = .ok (.putfield 69, 3) := by decide +kernel
theorem d_Processor_locate_72 : decode (rm_code mProcessor_locate) 72 = .ok (.aload_n 0, 1) := by decide +kernel
theorem d_Processor_locate_73 : decode (rm_code mProcessor_locate) 73 = .ok (.aload_n 0, 1) := by decide +kernel
theorem d_Processor_locate_74 : decode (rm_code mProcessor_locate) 74 = .ok (.getfield 39, 3) := by decide +kernel
theorem d_Processor_locate_77 : decode (rm_code mProcessor_locate) 77 = .ok (.iconst 1, 1) := by decide +kernel
theorem d_Processor_locate_78 : decode (rm_code mProcessor_locate) 78 = .ok (.iadd, 1) := by decide +kernel
theorem d_Processor_locate_79 : decode (rm_code mProcessor_locate) 79 = .ok (.sipush (2047), 3) := by decide +kernel
theorem d_Processor_locate_82 : decode (rm_code mProcessor_locate) 82 = .ok (.iand, 1) := by decide +kernel
theorem d_Processor_locate_83 : decode (rm_code mProcessor_locate) 83 = .ok (.putfield 39, 3) := by decide +kernel
theorem d_Processor_locate_86 : decode (rm_code mProcessor_locate) 86 = .ok (.goto (230), 3) := by decide +kernel
theorem d_Processor_locate_89 : decode (rm_code mProcessor_locate) 89 = .ok (.aload_n 0, 1) := by decide +kernel
theorem d_Processor_locate_90 : decode (rm_code mProcessor_locate) 90 = .ok (.aload_n 0, 1) := by decide +kernel
theorem d_Processor_locate_91 : decode (rm_code mProcessor_locate) 91 = .ok (.invokevirtual 94, 3) := by decide +kernel
theorem d_Processor_locate_94 : decode (rm_code mProcessor_locate) 94 = .ok (.putfield 69, 3) := by decide +kernel
theorem d_Processor_locate_97 : decode (rm_code mProcessor_locate) 97 = .ok (.goto (219), 3) := by decide +kernel
theorem d_Processor_locate_100 : decode (rm_code mProcessor_locate) 100 = .ok (.aload_n 0, 1) := by decide +kernel
theorem d_Processor_locate_101 : decode (rm_code mProcessor_locate) 101 = .ok (.aload_n 0, 1) := by decide +kernel
theorem d_Processor_locate_102 : decode (rm_code mProcessor_locate) 102 = .ok (.invokevirtual 94, 3) := by decide +kernel
theorem d_Processor_locate_105 : decode (rm_code mProcessor_locate) 105 = .ok (.aload_n 0, 1) := by decide +kernel
theorem d_Processor_locate_106 : decode (rm_code mProcessor_locate) 106 = .ok (.getfield 33, 3) := by decide +kernel
theorem d_Processor_locate_109 : decode (rm_code mProcessor_locate) 109 = .ok (.iadd, 1) := by decide +kernel
theorem d_Processor_locate_110 : decode (rm_code mProcessor_locate) 110 = .ok (.sipush (255), 3) := by decide +kernel
theorem d_Processor_locate_113 : decode (rm_code mProcessor_locate) 113 = .ok (.iand, 1) := by decide +kernel
theorem d_Processor_locate_114 : decode (rm_code mProcessor_locate) 114 = .ok (.putfield 69, 3) := by decide +kernel
theorem d_Processor_locate_117 : decode (rm_code mProcessor_locate) 117 = .ok (.goto (199), 3) := by decide +kernel
theorem d_Processor_locate_120 : decode (rm_code mProcessor_locate) 120 = .ok (.aload_n 0, 1) := by decide +kernel
theorem d_Processor_locate_121 : decode (rm_code mProcessor_locate) 121 = .ok (.aload_n 0, 1) := by decide +kernel
theorem d_Processor_locate_122 : decode (rm_code mProcessor_locate) 122 = .ok (.invokevirtual 94, 3) := by decide +kernel
theorem d_Processor_locate_125 : decode (rm_code mProcessor_locate) 125 = .ok (.aload_n 0, 1) := by decide +kernel
theorem d_Processor_locate_126 : decode (rm_code mProcessor_locate) 126 = .ok (.getfield 36, 3) := by decide +kernel
theorem d_Processor_locate_129 : decode (rm_code mProcessor_locate) 129 = .ok (.iadd, 1) := by decide +kernel
theorem d_Processor_locate_130 : decode (rm_code mProcessor_locate) 130 = .ok (.sipush (255), 3) := by decide +kernel
theorem d_Processor_locate_133 : decode (rm_code mProcessor_locate) 133 = .ok (.iand, 1) := by decide +kernel
theorem d_Processor_locate_134 : decode (rm_code mProcessor_locate) 134 = .ok (.putfield 69, 3) := by decide +kernel
theorem d_Processor_locate_137 : decode (rm_code mProcessor_locate) 137 = .ok (.goto (179), 3) := by decide +kernel
theorem d_Processor_locate_140 : decode (rm_code mProcessor_locate) 140 = .ok (.aload_n 0, 1) := by decide +kernel
theorem d_Processor_locate_141 : decode (rm_code mProcessor_locate) 141 = .ok (.aload_n 0, 1) := by decide +kernel
theorem d_Processor_locate_142 : decode (rm_code mProcessor_locate) 142 = .ok (.invokevirtual 98, 3) := by decide +kernel
theorem d_Processor_locate_145 : decode (rm_code mProcessor_locate) 145 = .ok (.putfield 69, 3) := by decide +kernel
theorem d_Processor_locate_148 : decode (rm_code mProcessor_locate) 148 = .ok (.goto (168), 3) := by decide +kernel
theorem d_Processor_locate_151 : decode (rm_code mProcessor_locate) 151 = .ok (.aload_n 0, 1) := by decide +kernel
theorem d_Processor_locate_152 : decode (rm_code mProcessor_locate) 152 = .ok (.aload_n 0, 1) := by decide +kernel
theorem d_Processor_locate_153 : decode (rm_code mProcessor_locate) 153 = .ok (.invokevirtual 98, 3) := by decide +kernel
theorem d_Processor_locate_156 : decode (rm_code mProcessor_locate) 156 = .ok (.aload_n 0, 1) := by decide +kernel
theorem d_Processor_locate_157 : decode (rm_code mProcessor_locate) 157 = .ok (.getfield 33, 3) := by decide +kernel
theorem d_Processor_locate_160 : decode (rm_code mProcessor_locate) 160 = .ok (.invokevirtual 101, 3) := by decide +kernel
theorem d_Processor_locate_163 : decode (rm_code mProcessor_locate) 163 = .ok (.goto (153), 3) := by decide +kernel
theorem d_Processor_locate_166 : decode (rm_code mProcessor_locate) 166 = .ok (.aload_n 0, 1) := by decide +kernel
theorem d_Processor_locate_167 : decode (rm_code mProcessor_locate) 167 = .ok (.aload_n 0, 1) := by decide +kernel
theorem d_Processor_locate_168 : decode (rm_code mProcessor_locate) 168 = .ok (.invokevirtual 98, 3) := by decide +kernel
theorem d_Processor_locate_171 : decode (rm_code mProcessor_locate) 171 = .ok (.aload_n 0, 1) := by decide +kernel
theorem d_Processor_locate_172 : decode (rm_code mProcessor_locate) 172 = .ok (.getfield 36, 3) := by decide +kernel
theorem d_Processor_locate_175 : decode (rm_code mProcessor_locate) 175 = .ok (.invokevirtual 101, 3) := by decide +kernel
theorem d_Processor_locate_178 : decode (rm_code mProcessor_locate) 178 = .ok (.goto (138), 3) := by decide +kernel
theorem d_Processor_locate_181 : decode (rm_code mProcessor_locate) 181 = .ok (.aload_n 0, 1) := by decide +kernel
theorem d_Processor_locate_182 : decode (rm_code mProcessor_locate) 182 = .ok (.aload_n 0, 1) := by decide +kernel
theorem d_Processor_locate_183 : decode (rm_code mProcessor_locate) 183 = .ok (.aload_n 0, 1) := by decide +kernel
theorem d_Processor_locate_184 : decode (rm_code mProcessor_locate) 184 = .ok (.invokevirtual 94, 3) := by decide +kernel
theorem d_Processor_locate_187 : decode (rm_code mProcessor_locate) 187 = .ok (.aload_n 0, 1) := by decide +kernel
theorem d_Processor_locate_188 : decode (rm_code mProcessor_locate) 188 = .ok (.getfield 33, 3) := by decide +kernel
theorem d_Processor_locate_191 : decode (rm_code mProcessor_locate) 191 = .ok (.iadd, 1) := by decide +kernel
theorem d_Processor_locate_192 : decode (rm_code mProcessor_locate) 192 = .ok (.invokevirtual 104, 3) := by decide +kernel
theorem d_Processor_locate_195 : decode (rm_code mProcessor_locate) 195 = .ok (.putfield 69, 3) := by decide +kernel
theorem d_Processor_locate_198 : decode (rm_code mProcessor_locate) 198 = .ok (.goto (118), 3) := by decide +kernel
theorem d_Processor_locate_201 : decode (rm_code mProcessor_locate) 201 = .ok (.aload_n 0, 1) := by decide +kernel
theorem d_Processor_locate_202 : decode (rm_code mProcessor_locate) 202 = .ok (.aload_n 0, 1) := by decide +kernel
theorem d_Processor_locate_203 : decode (rm_code mProcessor_locate) 203 = .ok (.aload_n 0, 1) := by decide +kernel
theorem d_Processor_locate_204 : decode (rm_code mProcessor_locate) 204 = .ok (.invokevirtual 94, 3) := by decide +kernel
theorem d_Processor_locate_207 : decode (rm_code mProcessor_locate) 207 = .ok (.invokevirtual 104, 3) := by decide +kernel
theorem d_Processor_locate_210 : decode (rm_code mProcessor_locate) 210 = .ok (.aload_n 0, 1) := by decide +kernel
theorem d_Processor_locate_211 : decode (rm_code mProcessor_locate) 211 = .ok (.getfield 36, 3) := by decide +kernel
theorem d_Processor_locate_214 : decode (rm_code mProcessor_locate) 214 = .ok (.invokevirtual 101, 3) := by decide +kernel
theorem d_Processor_locate_217 : decode (rm_code mProcessor_locate) 217 = .ok (.goto (99), 3) := by decide +kernel
theorem d_Processor_locate_220 : decode (rm_code mProcessor_locate) 220 = .ok (.aload_n 0, 1) := by decide +kernel
theorem d_Processor_locate_221 : decode (rm_code mProcessor_locate) 221 = .ok (.invokevirtual 94, 3) := by decide +kernel
theorem d_Processor_locate_224 : decode (rm_code mProcessor_locate) 224 = .ok (.istore_n 2, 1) := by decide +kernel
theorem d_Processor_locate_225 : decode (rm_code mProcessor_locate) 225 = .ok (.aload_n 0, 1) := by decide +kernel
theorem d_Processor_locate_226 : decode (rm_code mProcessor_locate) 226 = .ok (.aload_n 0, 1) := by decide +kernel
theorem d_Processor_locate_227 : decode (rm_code mProcessor_locate) 227 = .ok (.getfield 39, 3) := by decide +kernel
theorem d_Processor_locate_230 : decode (rm_code mProcessor_locate) 230 = .ok (.iload_n 2, 1) := by decide +kernel
theorem d_Processor_locate_231 : decode (rm_code mProcessor_locate) 231 = .ok (.sipush (128), 3) := by decide +kernel
theorem d_Processor_locate_234 : decode (rm_code mProcessor_locate) 234 = .ok (.if_icmp .ge (7), 3) := by decide +kernel
theorem d_Processor_locate_237 : decode (rm_code mProcessor_locate) 237 = .ok (.iload_n 2, 1) := by decide +kernel
theorem d_Processor_locate_238 : decode (rm_code mProcessor_locate) 238 = .ok (.goto (8), 3) := by decide +kernel
theorem d_Processor_locate_241 : decode (rm_code mProcessor_locate) 241 = .ok (.iload_n 2, 1) := by decide +kernel
theorem d_Processor_locate_242 : decode (rm_code mProcessor_locate) 242 = .ok (.sipush (256), 3) := by decide +kernel
theorem d_Processor_locate_245 : decode (rm_code mProcessor_locate) 245 = .ok (.isub, 1) := by decide +kernel
theorem d_Processor_locate_246 : decode (rm_code mProcessor_locate) 246 = .ok (.iadd, 1) := by decide +kernel
theorem d_Processor_locate_247 : decode (rm_code mProcessor_locate) 247 = .ok (.putfield 69, 3) := by decide +kernel
theorem d_Processor_locate_250 : decode (rm_code mProcessor_locate) 250 = .ok (.aload_n 0, 1) := by decide +kernel
theorem d_Processor_locate_251 : decode (rm_code mProcessor_locate) 251 = .ok (.aload_n 0, 1) := by decide +kernel
theorem d_Processor_locate_252 : decode (rm_code mProcessor_locate) 252 = .ok (.getfield 69, 3) := by decide +kernel
theorem d_Processor_locate_255 : decode (rm_code mProcessor_locate) 255 = .ok (.ldc 107, 2) := by decide +kernel
theorem d_Processor_locate_257 : decode (rm_code mProcessor_locate) 257 = .ok (.iand, 1) := by decide +kernel
theorem d_Processor_locate_258 : decode (rm_code mProcessor_locate) 258 = .ok (.aload_n 0, 1) := by decide +kernel
theorem d_Processor_locate_259 : decode (rm_code mProcessor_locate) 259 = .ok (.getfield 39, 3) := by decide +kernel
theorem d_Processor_locate_262 : decode (rm_code mProcessor_locate) 262 = .ok (.ldc 107, 2) := by decide +kernel
theorem d_Processor_locate_264 : decode (rm_code mProcessor_locate) 264 = .ok (.iand, 1) := by decide +kernel
theorem d_Processor_locate_265 : decode (rm_code mProcessor_locate) 265 = .ok (.if_icmp .eq (7), 3) := by decide +kernel
theorem d_Processor_locate_268 : decode (rm_code mProcessor_locate) 268 = .ok (.iconst 1, 1) := by decide +kernel
theorem d_Processor_locate_269 : decode (rm_code mProcessor_locate) 269 = .ok (.goto (4), 3) := by decide +kernel
theorem d_Processor_locate_272 : decode (rm_code mProcessor_locate) 272 = .ok (.iconst 0, 1) := by decide +kernel
theorem d_Processor_locate_273 : decode (rm_code mProcessor_locate) 273 = .ok (.putfield 65, 3) := by decide +kernel
theorem d_Processor_locate_276 : decode (rm_code mProcessor_locate) 276 = .ok (.goto (40), 3) := by decide +kernel
theorem d_Processor_locate_279 : decode (rm_code mProcessor_locate) 279 = .ok (.aload_n 0, 1) := by decide +kernel
theorem d_Processor_locate_280 : decode (rm_code mProcessor_locate) 280 = .ok (.invokevirtual 98, 3) := by decide +kernel
theorem d_Processor_locate_283 : decode (rm_code mProcessor_locate) 283 = .ok (.istore_n 3, 1) := by decide +kernel
theorem d_Processor_locate_284 : decode (rm_code mProcessor_locate) 284 = .ok (.aload_n 0, 1) := by decide +kernel
theorem d_Processor_locate_285 : decode (rm_code mProcessor_locate) 285 = .ok (.aload_n 0, 1) := by decide +kernel
theorem d_Processor_locate_286 : decode (rm_code mProcessor_locate) 286 = .ok (.iload_n 3, 1) := by decide +kernel
theorem d_Processor_locate_287 : decode (rm_code mProcessor_locate) 287 = .ok (.invokevirtual 45, 3) := by decide +kernel
theorem d_Processor_locate_290 : decode (rm_code mProcessor_locate) 290 = .ok (.aload_n 0, 1) := by decide +kernel
theorem d_Processor_locate_291 : decode (rm_code mProcessor_locate) 291 = .ok (.iload_n 3, 1) := by decide +kernel
theorem d_Processor_locate_292 : decode (rm_code mProcessor_locate) 292 = .ok (.ldc 107, 2) := by decide +kernel
theorem d_Processor_locate_294 : decode (rm_code mProcessor_locate) 294 = .ok (.iand, 1) := by decide +kernel
theorem d_Processor_locate_295 : decode (rm_code mProcessor_locate) 295 = .ok (.iload_n 3, 1) := by decide +kernel
theorem d_Processor_locate_296 : decode (rm_code mProcessor_locate) 296 = .ok (.iconst 1, 1) := by decide +kernel
theorem d_Processor_locate_297 : decode (rm_code mProcessor_locate) 297 = .ok (.iadd, 1) := by decide +kernel
theorem d_Processor_locate_298 : decode (rm_code mProcessor_locate) 298 = .ok (.sipush (255), 3) := by decide +kernel
theorem d_Processor_locate_301 : decode (rm_code mProcessor_locate) 301 = .ok (.iand, 1) := by decide +kernel
theorem d_Processor_locate_302 : decode (rm_code mProcessor_locate) 302 = .ok (.ior, 1) := by decide +kernel
theorem d_Processor_locate_303 : decode (rm_code mProcessor_locate) 303 = .ok (.invokevirtual 45, 3) := by decide +kernel
theorem d_Processor_locate_306 : decode (rm_code mProcessor_locate) 306 = .ok (.bipush (8), 2) := by decide +kernel
theorem d_Processor_locate_308 : decode (rm_code mProcessor_locate) 308 = .ok (.ishl, 1) := by decide +kernel
theorem d_Processor_locate_309 : decode (rm_code mProcessor_locate) 309 = .ok (.ior, 1) := by decide +kernel
theorem d_Processor_locate_310 : decode (rm_code mProcessor_locate) 310 = .ok (.putfield 69, 3) := by decide +kernel
theorem d_Processor_locate_313 : decode (rm_code mProcessor_locate) 313 = .ok (.goto (3), 3) := by decide +kernel
theorem d_Processor_locate_316 : decode (rm_code mProcessor_locate) 316 = .ok (.return_, 1) := by decide +kernel
theorem p_Processor_locate_0 {S : rz_S} {K : rz_S → Prop} {a1 : Int32} (w : ((a1.toInt < 2 ∨ 12 < a1.toInt → K (rz_uI S 37 9 0)) ∧ (a1 = 2 → K (rz_uI (rz_uI (rz_uI S 37 9 0) 37 8 (S.2 37 5)) 37 5 (((S.2 37 5) + 1) &&& 2047))) ∧ (a1 = 3 → rz_ev mProcessor_fetch [.ref 37] (rz_uI S 37 9 0) (rz_i (fun xq1 Sq1 => K (rz_uI Sq1 37 8 xq1)))) ∧ (a1 = 4 → rz_ev mProcessor_fetch [.ref 37] (rz_uI S 37 9 0) (rz_i (fun xq2 Sq2 => K (rz_uI Sq2 37 8 ((xq2 + (Sq2.2 37 1)) &&& 255))))) ∧ (a1 = 5 → rz_ev mProcessor_fetch [.ref 37] (rz_uI S 37 9 0) (rz_i (fun xq3 Sq3 => K (rz_uI Sq3 37 8 ((xq3 + (Sq3.2 37 2)) &&& 255))))) ∧ (a1 = 6 → rz_ev mProcessor_fetchTwo [.ref 37] (rz_uI S 37 9 0) (rz_i (fun xq4 Sq4 => K (rz_uI Sq4 37 8 xq4)))) ∧ (a1 = 7 → rz_ev mProcessor_fetchTwo [.ref 37] (rz_uI S 37 9 0) (rz_i (fun xq5 Sq5 => rz_ev mProcessor_indexed [.ref 37, .int xq5, .int (Sq5.2 37 1)] Sq5 (rz_v (fun Sq6 => K Sq6))))) ∧ (a1 = 8 → rz_ev mProcessor_fetchTwo [.ref 37] (rz_uI S 37 9 0) (rz_i (fun xq7 Sq7 => rz_ev mProcessor_indexed [.ref 37, .int xq7, .int (Sq7.2 37 2)] Sq7 (rz_v (fun Sq8 => K Sq8))))) ∧ (a1 = 9 → rz_ev mProcessor_fetch [.ref 37] (rz_uI S 37 9 0) (rz_i (fun xq9 Sq9 => rz_ev mProcessor_pair [.ref 37, .int (xq9 + (Sq9.2 37 1))] Sq9 (rz_i (fun xq10 Sq10 => K (rz_uI Sq10 37 8 xq10)))))) ∧ (a1 = 10 → rz_ev mProcessor_fetch [.ref 37] (rz_uI S 37 9 0) (rz_i (fun xq11 Sq11 => rz_ev mProcessor_pair [.ref 37, .int xq11] Sq11 (rz_i (fun xq12 Sq12 => rz_ev mProcessor_indexed [.ref 37, .int xq12, .int (Sq12.2 37 2)] Sq12 (rz_v (fun Sq13 => K Sq13))))))) ∧ (a1 = 11 → rz_ev mProcessor_fetch [.ref 37] (rz_uI S 37 9 0) (rz_i (fun xq14 Sq14 => ((128 ≤ xq14 → rz mProcessor_locate 246 [(0, .ref 37)] [.int (xq14 - 256), .int (Sq14.2 37 5), .ref 37] Sq14 (rz_v K)) ∧ (¬ 128 ≤ xq14 → rz mProcessor_locate 246 [(0, .ref 37)] [.int xq14, .int (Sq14.2 37 5), .ref 37] Sq14 (rz_v K)))))) ∧ (a1 = 12 → rz_ev mProcessor_fetchTwo [.ref 37] (rz_uI S 37 9 0) (rz_i (fun xq16 Sq16 => rz_ev mProcessor_get [.ref 37, .int xq16] Sq16 (rz_i (fun xq17 Sq17 => rz_ev mProcessor_get [.ref 37, .int ((xq16 &&& 65280) ||| ((xq16 + 1) &&& 255))] Sq17 (rz_i (fun xq18 Sq18 => K (rz_uI Sq18 37 8 (xq17 ||| (xq18 <<< ((8 : Int32) &&& 31))))))))))))) : rz mProcessor_locate 0 [(0, .ref 37), (1, .int a1)] [] S (rz_v K) := by
  refine rz_pure (pc' := 1) d_Processor_locate_0 rfl ?_
  refine rz_iconst (v := 0) d_Processor_locate_1 (by decide) ?_
  refine rz_puti d_Processor_locate_2 f_7_65 rfl rfl (by decide) ?_
  refine rz_pure (pc' := 6) d_Processor_locate_5 rfl ?_
  refine rz_tsw (n := 11) (lo := 2) (tgt := 316) d_Processor_locate_6 rfl rfl (fun b0 => ?_) (fun j hj hx => ?_)
  · skip
    exact rz_vretv d_Processor_locate_316 rfl (w.1 b0)
  · match j, hj with
    | 0, _ =>
      replace hx := hx.trans (show Int32.ofInt ((2 : Int) + ((0 : Nat) : Int)) = 2 from by decide)
      refine rz_tsj (tgt := 64) d_Processor_locate_6 hx rfl ?_
      refine rz_pure (pc' := 65) d_Processor_locate_64 rfl ?_
      refine rz_pure (pc' := 66) d_Processor_locate_65 rfl ?_
      refine rz_getiv (v := S.2 37 5) d_Processor_locate_66 f_7_39 rfl rfl ((rz_uI_n (fun h => absurd h.2 (by decide))).trans rfl) ?_
      refine rz_puti d_Processor_locate_69 f_7_69 rfl rfl rfl ?_
      refine rz_pure (pc' := 73) d_Processor_locate_72 rfl ?_
      refine rz_pure (pc' := 74) d_Processor_locate_73 rfl ?_
      refine rz_getiv (v := S.2 37 5) d_Processor_locate_74 f_7_39 rfl rfl ((rz_uI_n (fun h => absurd h.2 (by decide))).trans ((rz_uI_n (fun h => absurd h.2 (by decide))).trans rfl)) ?_
      refine rz_iconst (v := 1) d_Processor_locate_77 (by decide) ?_
      refine rz_iadd d_Processor_locate_78 ?_
      refine rz_sipush (v := 2047) d_Processor_locate_79 (by decide) ?_
      refine rz_iand d_Processor_locate_82 ?_
      refine rz_puti d_Processor_locate_83 f_7_39 rfl rfl rfl ?_
      refine rz_pure (pc' := 316) d_Processor_locate_86 rfl ?_
      exact rz_vretv d_Processor_locate_316 rfl (w.2.1 hx)
    | 1, _ =>
      replace hx := hx.trans (show Int32.ofInt ((2 : Int) + ((1 : Nat) : Int)) = 3 from by decide)
      refine rz_tsj (tgt := 89) d_Processor_locate_6 hx rfl ?_
      refine rz_pure (pc' := 90) d_Processor_locate_89 rfl ?_
      refine rz_pure (pc' := 91) d_Processor_locate_90 rfl ?_
      refine rz_callVi (t := []) d_Processor_locate_91 w_7_94 rfl rfl rfl (w.2.2.1 hx) (fun xq1 Sq1 q1 => ?_)
      refine rz_puti d_Processor_locate_94 f_7_69 rfl rfl rfl ?_
      refine rz_pure (pc' := 316) d_Processor_locate_97 rfl ?_
      exact rz_vretv d_Processor_locate_316 rfl q1
    | 2, _ =>
      replace hx := hx.trans (show Int32.ofInt ((2 : Int) + ((2 : Nat) : Int)) = 4 from by decide)
      refine rz_tsj (tgt := 100) d_Processor_locate_6 hx rfl ?_
      refine rz_pure (pc' := 101) d_Processor_locate_100 rfl ?_
      refine rz_pure (pc' := 102) d_Processor_locate_101 rfl ?_
      refine rz_callVi (t := []) d_Processor_locate_102 w_7_94 rfl rfl rfl (w.2.2.2.1 hx) (fun xq2 Sq2 q2 => ?_)
      refine rz_pure (pc' := 106) d_Processor_locate_105 rfl ?_
      refine rz_getiv (v := Sq2.2 37 1) d_Processor_locate_106 f_7_33 rfl rfl rfl ?_
      refine rz_iadd d_Processor_locate_109 ?_
      refine rz_sipush (v := 255) d_Processor_locate_110 (by decide) ?_
      refine rz_iand d_Processor_locate_113 ?_
      refine rz_puti d_Processor_locate_114 f_7_69 rfl rfl rfl ?_
      refine rz_pure (pc' := 316) d_Processor_locate_117 rfl ?_
      exact rz_vretv d_Processor_locate_316 rfl q2
    | 3, _ =>
      replace hx := hx.trans (show Int32.ofInt ((2 : Int) + ((3 : Nat) : Int)) = 5 from by decide)
      refine rz_tsj (tgt := 120) d_Processor_locate_6 hx rfl ?_
      refine rz_pure (pc' := 121) d_Processor_locate_120 rfl ?_
      refine rz_pure (pc' := 122) d_Processor_locate_121 rfl ?_
      refine rz_callVi (t := []) d_Processor_locate_122 w_7_94 rfl rfl rfl (w.2.2.2.2.1 hx) (fun xq3 Sq3 q3 => ?_)
      refine rz_pure (pc' := 126) d_Processor_locate_125 rfl ?_
      refine rz_getiv (v := Sq3.2 37 2) d_Processor_locate_126 f_7_36 rfl rfl rfl ?_
      refine rz_iadd d_Processor_locate_129 ?_
      refine rz_sipush (v := 255) d_Processor_locate_130 (by decide) ?_
      refine rz_iand d_Processor_locate_133 ?_
      refine rz_puti d_Processor_locate_134 f_7_69 rfl rfl rfl ?_
      refine rz_pure (pc' := 316) d_Processor_locate_137 rfl ?_
      exact rz_vretv d_Processor_locate_316 rfl q3
    | 4, _ =>
      replace hx := hx.trans (show Int32.ofInt ((2 : Int) + ((4 : Nat) : Int)) = 6 from by decide)
      refine rz_tsj (tgt := 140) d_Processor_locate_6 hx rfl ?_
      refine rz_pure (pc' := 141) d_Processor_locate_140 rfl ?_
      refine rz_pure (pc' := 142) d_Processor_locate_141 rfl ?_
      refine rz_callVi (t := []) d_Processor_locate_142 w_7_98 rfl rfl rfl (w.2.2.2.2.2.1 hx) (fun xq4 Sq4 q4 => ?_)
      refine rz_puti d_Processor_locate_145 f_7_69 rfl rfl rfl ?_
      refine rz_pure (pc' := 316) d_Processor_locate_148 rfl ?_
      exact rz_vretv d_Processor_locate_316 rfl q4
    | 5, _ =>
      replace hx := hx.trans (show Int32.ofInt ((2 : Int) + ((5 : Nat) : Int)) = 7 from by decide)
      refine rz_tsj (tgt := 151) d_Processor_locate_6 hx rfl ?_
      refine rz_pure (pc' := 152) d_Processor_locate_151 rfl ?_
      refine rz_pure (pc' := 153) d_Processor_locate_152 rfl ?_
      refine rz_callVi (t := []) d_Processor_locate_153 w_7_98 rfl rfl rfl (w.2.2.2.2.2.2.1 hx) (fun xq5 Sq5 q5 => ?_)
      refine rz_pure (pc' := 157) d_Processor_locate_156 rfl ?_
      refine rz_getiv (v := Sq5.2 37 1) d_Processor_locate_157 f_7_33 rfl rfl rfl ?_
      refine rz_callVv (t := [.int (Sq5.2 37 1), .int xq5]) d_Processor_locate_160 w_7_101 rfl rfl rfl q5 (fun Sq6 q6 => ?_)
      refine rz_pure (pc' := 316) d_Processor_locate_163 rfl ?_
      exact rz_vretv d_Processor_locate_316 rfl q6
    | 6, _ =>
      replace hx := hx.trans (show Int32.ofInt ((2 : Int) + ((6 : Nat) : Int)) = 8 from by decide)
      refine rz_tsj (tgt := 166) d_Processor_locate_6 hx rfl ?_
      refine rz_pure (pc' := 167) d_Processor_locate_166 rfl ?_
      refine rz_pure (pc' := 168) d_Processor_locate_167 rfl ?_
      refine rz_callVi (t := []) d_Processor_locate_168 w_7_98 rfl rfl rfl (w.2.2.2.2.2.2.2.1 hx) (fun xq7 Sq7 q7 => ?_)
      refine rz_pure (pc' := 172) d_Processor_locate_171 rfl ?_
      refine rz_getiv (v := Sq7.2 37 2) d_Processor_locate_172 f_7_36 rfl rfl rfl ?_
      refine rz_callVv (t := [.int (Sq7.2 37 2), .int xq7]) d_Processor_locate_175 w_7_101 rfl rfl rfl q7 (fun Sq8 q8 => ?_)
      refine rz_pure (pc' := 316) d_Processor_locate_178 rfl ?_
      exact rz_vretv d_Processor_locate_316 rfl q8
    | 7, _ =>
      replace hx := hx.trans (show Int32.ofInt ((2 : Int) + ((7 : Nat) : Int)) = 9 from by decide)
      refine rz_tsj (tgt := 181) d_Processor_locate_6 hx rfl ?_
      refine rz_pure (pc' := 182) d_Processor_locate_181 rfl ?_
      refine rz_pure (pc' := 183) d_Processor_locate_182 rfl ?_
      refine rz_pure (pc' := 184) d_Processor_locate_183 rfl ?_
      refine rz_callVi (t := []) d_Processor_locate_184 w_7_94 rfl rfl rfl (w.2.2.2.2.2.2.2.2.1 hx) (fun xq9 Sq9 q9 => ?_)
      refine rz_pure (pc' := 188) d_Processor_locate_187 rfl ?_
      refine rz_getiv (v := Sq9.2 37 1) d_Processor_locate_188 f_7_33 rfl rfl rfl ?_
      refine rz_iadd d_Processor_locate_191 ?_
      refine rz_callVi (t := [.int (xq9 + (Sq9.2 37 1))]) d_Processor_locate_192 w_7_104 rfl rfl rfl q9 (fun xq10 Sq10 q10 => ?_)
      refine rz_puti d_Processor_locate_195 f_7_69 rfl rfl rfl ?_
      refine rz_pure (pc' := 316) d_Processor_locate_198 rfl ?_
      exact rz_vretv d_Processor_locate_316 rfl q10
    | 8, _ =>
      replace hx := hx.trans (show Int32.ofInt ((2 : Int) + ((8 : Nat) : Int)) = 10 from by decide)
      refine rz_tsj (tgt := 201) d_Processor_locate_6 hx rfl ?_
      refine rz_pure (pc' := 202) d_Processor_locate_201 rfl ?_
      refine rz_pure (pc' := 203) d_Processor_locate_202 rfl ?_
      refine rz_pure (pc' := 204) d_Processor_locate_203 rfl ?_
      refine rz_callVi (t := []) d_Processor_locate_204 w_7_94 rfl rfl rfl (w.2.2.2.2.2.2.2.2.2.1 hx) (fun xq11 Sq11 q11 => ?_)
      refine rz_callVi (t := [.int xq11]) d_Processor_locate_207 w_7_104 rfl rfl rfl q11 (fun xq12 Sq12 q12 => ?_)
      refine rz_pure (pc' := 211) d_Processor_locate_210 rfl ?_
      refine rz_getiv (v := Sq12.2 37 2) d_Processor_locate_211 f_7_36 rfl rfl rfl ?_
      refine rz_callVv (t := [.int (Sq12.2 37 2), .int xq12]) d_Processor_locate_214 w_7_101 rfl rfl rfl q12 (fun Sq13 q13 => ?_)
      refine rz_pure (pc' := 316) d_Processor_locate_217 rfl ?_
      exact rz_vretv d_Processor_locate_316 rfl q13
    | 9, _ =>
      replace hx := hx.trans (show Int32.ofInt ((2 : Int) + ((9 : Nat) : Int)) = 11 from by decide)
      refine rz_tsj (tgt := 220) d_Processor_locate_6 hx rfl ?_
      refine rz_pure (pc' := 221) d_Processor_locate_220 rfl ?_
      refine rz_callVi (t := []) d_Processor_locate_221 w_7_94 rfl rfl rfl (w.2.2.2.2.2.2.2.2.2.2.1 hx) (fun xq14 Sq14 q14 => ?_)
      refine rz_pure (pc' := 225) (l' := [(2, .int xq14), (0, .ref 37), (1, .int a1)]) d_Processor_locate_224 rfl ?_
      refine rz_pure (pc' := 226) d_Processor_locate_225 rfl ?_
      refine rz_pure (pc' := 227) d_Processor_locate_226 rfl ?_
      refine rz_getiv (v := Sq14.2 37 5) d_Processor_locate_227 f_7_39 rfl rfl rfl ?_
      refine rz_pure (pc' := 231) d_Processor_locate_230 rfl ?_
      refine rz_sipush (v := 128) d_Processor_locate_231 (by decide) ?_
      refine rz_icmpge (tgt := 241) d_Processor_locate_234 rfl (fun b15 => ?_) (fun b15 => ?_)
      · skip
        refine rz_pure (pc' := 242) d_Processor_locate_241 rfl ?_
        refine rz_sipush (v := 256) d_Processor_locate_242 (by decide) ?_
        refine rz_isub d_Processor_locate_245 ?_
        exact rz_pick (ks := [0]) (l := [(0, .ref 37)]) rfl rfl (by decide) rfl (q14.1 b15)
      · skip
        refine rz_pure (pc' := 238) d_Processor_locate_237 rfl ?_
        refine rz_pure (pc' := 246) d_Processor_locate_238 rfl ?_
        exact rz_pick (ks := [0]) (l := [(0, .ref 37)]) rfl rfl (by decide) rfl (q14.2 b15)
    | 10, _ =>
      replace hx := hx.trans (show Int32.ofInt ((2 : Int) + ((10 : Nat) : Int)) = 12 from by decide)
      refine rz_tsj (tgt := 279) d_Processor_locate_6 hx rfl ?_
      refine rz_pure (pc' := 280) d_Processor_locate_279 rfl ?_
      refine rz_callVi (t := []) d_Processor_locate_280 w_7_98 rfl rfl rfl (w.2.2.2.2.2.2.2.2.2.2.2 hx) (fun xq16 Sq16 q16 => ?_)
      refine rz_pure (pc' := 284) (l' := [(3, .int xq16), (0, .ref 37), (1, .int a1)]) d_Processor_locate_283 rfl ?_
      refine rz_pure (pc' := 285) d_Processor_locate_284 rfl ?_
      refine rz_pure (pc' := 286) d_Processor_locate_285 rfl ?_
      refine rz_pure (pc' := 287) d_Processor_locate_286 rfl ?_
      refine rz_callVi (t := [.int xq16]) d_Processor_locate_287 w_7_45 rfl rfl rfl q16 (fun xq17 Sq17 q17 => ?_)
      refine rz_pure (pc' := 291) d_Processor_locate_290 rfl ?_
      refine rz_pure (pc' := 292) d_Processor_locate_291 rfl ?_
      refine rz_ldci (v := 65280) d_Processor_locate_292 rfl ?_
      refine rz_iand d_Processor_locate_294 ?_
      refine rz_pure (pc' := 296) d_Processor_locate_295 rfl ?_
      refine rz_iconst (v := 1) d_Processor_locate_296 (by decide) ?_
      refine rz_iadd d_Processor_locate_297 ?_
      refine rz_sipush (v := 255) d_Processor_locate_298 (by decide) ?_
      refine rz_iand d_Processor_locate_301 ?_
      refine rz_ior d_Processor_locate_302 ?_
      refine rz_callVi (t := [.int ((xq16 &&& 65280) ||| ((xq16 + 1) &&& 255))]) d_Processor_locate_303 w_7_45 rfl rfl rfl q17 (fun xq18 Sq18 q18 => ?_)
      refine rz_bipush (v := 8) d_Processor_locate_306 (by decide) ?_
      refine rz_ishl d_Processor_locate_308 ?_
      refine rz_ior d_Processor_locate_309 ?_
      refine rz_puti d_Processor_locate_310 f_7_69 rfl rfl rfl ?_
      refine rz_pure (pc' := 316) d_Processor_locate_313 rfl ?_
      exact rz_vretv d_Processor_locate_316 rfl q18
    | j + 11, h => exact absurd h (by omega)
theorem p_Processor_locate_246 {S : rz_S} {K : rz_S → Prop} {s0 : Int32} {s1 : Int32} (w : (((s1 + s0) &&& 65280 = (S.2 37 5) &&& 65280 → K (rz_uI (rz_uI S 37 8 (s1 + s0)) 37 9 0)) ∧ (¬ (s1 + s0) &&& 65280 = (S.2 37 5) &&& 65280 → K (rz_uI (rz_uI S 37 8 (s1 + s0)) 37 9 1)))) : rz mProcessor_locate 246 [(0, .ref 37)] [.int s0, .int s1, .ref 37] S (rz_v K) := by
  refine rz_iadd d_Processor_locate_246 ?_
  refine rz_puti d_Processor_locate_247 f_7_69 rfl rfl rfl ?_
  refine rz_pure (pc' := 251) d_Processor_locate_250 rfl ?_
  refine rz_pure (pc' := 252) d_Processor_locate_251 rfl ?_
  refine rz_getiv (v := s1 + s0) d_Processor_locate_252 f_7_69 rfl rfl rz_uI_s ?_
  refine rz_ldci (v := 65280) d_Processor_locate_255 rfl ?_
  refine rz_iand d_Processor_locate_257 ?_
  refine rz_pure (pc' := 259) d_Processor_locate_258 rfl ?_
  refine rz_getiv (v := S.2 37 5) d_Processor_locate_259 f_7_39 rfl rfl ((rz_uI_n (fun h => absurd h.2 (by decide))).trans rfl) ?_
  refine rz_ldci (v := 65280) d_Processor_locate_262 rfl ?_
  refine rz_iand d_Processor_locate_264 ?_
  refine rz_icmpeq (tgt := 272) d_Processor_locate_265 rfl (fun b1 => ?_) (fun b1 => ?_)
  · skip
    refine rz_iconst (v := 0) d_Processor_locate_272 (by decide) ?_
    refine rz_puti d_Processor_locate_273 f_7_65 rfl rfl (by decide) ?_
    refine rz_pure (pc' := 316) d_Processor_locate_276 rfl ?_
    exact rz_vretv d_Processor_locate_316 rfl (w.1 b1)
  · skip
    refine rz_iconst (v := 1) d_Processor_locate_268 (by decide) ?_
    refine rz_pure (pc' := 273) d_Processor_locate_269 rfl ?_
    refine rz_puti d_Processor_locate_273 f_7_65 rfl rfl (by decide) ?_
    refine rz_pure (pc' := 316) d_Processor_locate_276 rfl ?_
    exact rz_vretv d_Processor_locate_316 rfl (w.2 b1)
theorem d_Processor_fetch_0 : decode (rm_code mProcessor_fetch) 0 = .ok (.aload_n 0, 1) := by decide +kernel
theorem d_Processor_fetch_1 : decode (rm_code mProcessor_fetch) 1 = .ok (.getfield 9, 3) := by decide +kernel
theorem d_Processor_fetch_4 : decode (rm_code mProcessor_fetch) 4 = .ok (.aload_n 0, 1) := by decide +kernel
theorem d_Processor_fetch_5 : decode (rm_code mProcessor_fetch) 5 = .ok (.getfield 39, 3) := by decide +kernel
theorem d_Processor_fetch_8 : decode (rm_code mProcessor_fetch) 8 = .ok (.sipush (2047), 3) := by decide +kernel
theorem d_Processor_fetch_11 : decode (rm_code mProcessor_fetch) 11 = .ok (.iand, 1) := by decide +kernel
theorem d_Processor_fetch_12 : decode (rm_code mProcessor_fetch) 12 = .ok (.iaload, 1) := by decide +kernel
theorem d_Processor_fetch_13 : decode (rm_code mProcessor_fetch) 13 = .ok (.istore_n 1, 1) := by decide +kernel
theorem d_Processor_fetch_14 : decode (rm_code mProcessor_fetch) 14 = .ok (.aload_n 0, 1) := by decide +kernel
theorem d_Processor_fetch_15 : decode (rm_code mProcessor_fetch) 15 = .ok (.aload_n 0, 1) := by decide +kernel
theorem d_Processor_fetch_16 : decode (rm_code mProcessor_fetch) 16 = .ok (.getfield 39, 3) := by decide +kernel
theorem d_Processor_fetch_19 : decode (rm_code mProcessor_fetch) 19 = .ok (.iconst 1, 1) := by decide +kernel
theorem d_Processor_fetch_20 : decode (rm_code mProcessor_fetch) 20 = .ok (.iadd, 1) := by decide +kernel
theorem d_Processor_fetch_21 : decode (rm_code mProcessor_fetch) 21 = .ok (.sipush (2047), 3) := by decide +kernel
theorem d_Processor_fetch_24 : decode (rm_code mProcessor_fetch) 24 = .ok (.iand, 1) := by decide +kernel
theorem d_Processor_fetch_25 : decode (rm_code mProcessor_fetch) 25 = .ok (.putfield 39, 3) := by decide +kernel
theorem d_Processor_fetch_28 : decode (rm_code mProcessor_fetch) 28 = .ok (.iload_n 1, 1) := by decide +kernel
theorem d_Processor_fetch_29 : decode (rm_code mProcessor_fetch) 29 = .ok (.ireturn, 1) := by decide +kernel
theorem p_Processor_fetch_0 {S : rz_S} {K : Int32 → rz_S → Prop} (w : rx_in ((S.2 37 5) &&& 2047) 2048 = true ∧ K (S.1 38 (((S.2 37 5) &&& 2047).toNatClampNeg)) (rz_uI S 37 5 (((S.2 37 5) + 1) &&& 2047))) : rz mProcessor_fetch 0 [(0, .ref 37)] [] S (rz_i K) := by
  refine rz_pure (pc' := 1) d_Processor_fetch_0 rfl ?_
  refine rz_getr d_Processor_fetch_1 f_7_9 rfl rfl ?_
  refine rz_pure (pc' := 5) d_Processor_fetch_4 rfl ?_
  refine rz_getiv (v := S.2 37 5) d_Processor_fetch_5 f_7_39 rfl rfl rfl ?_
  refine rz_sipush (v := 2047) d_Processor_fetch_8 (by decide) ?_
  refine rz_iand d_Processor_fetch_11 ?_
  refine rz_ialdv (F := S.1 38) (i := ((S.2 37 5) &&& 2047).toNatClampNeg) d_Processor_fetch_12 rfl w.1 rfl rfl ?_
  refine rz_pure (pc' := 14) (l' := [(1, .int (S.1 38 (((S.2 37 5) &&& 2047).toNatClampNeg))), (0, .ref 37)]) d_Processor_fetch_13 rfl ?_
  refine rz_pure (pc' := 15) d_Processor_fetch_14 rfl ?_
  refine rz_pure (pc' := 16) d_Processor_fetch_15 rfl ?_
  refine rz_getiv (v := S.2 37 5) d_Processor_fetch_16 f_7_39 rfl rfl rfl ?_
  refine rz_iconst (v := 1) d_Processor_fetch_19 (by decide) ?_
  refine rz_iadd d_Processor_fetch_20 ?_
  refine rz_sipush (v := 2047) d_Processor_fetch_21 (by decide) ?_
  refine rz_iand d_Processor_fetch_24 ?_
  refine rz_puti d_Processor_fetch_25 f_7_39 rfl rfl rfl ?_
  refine rz_pure (pc' := 29) d_Processor_fetch_28 rfl ?_
  exact rz_ireti d_Processor_fetch_29 rfl rfl w.2
theorem d_Processor_fetchTwo_0 : decode (rm_code mProcessor_fetchTwo) 0 = .ok (.aload_n 0, 1) := by decide +kernel
theorem d_Processor_fetchTwo_1 : decode (rm_code mProcessor_fetchTwo) 1 = .ok (.invokevirtual 94, 3) := by decide +kernel
theorem d_Processor_fetchTwo_4 : decode (rm_code mProcessor_fetchTwo) 4 = .ok (.istore_n 1, 1) := by decide +kernel
theorem d_Processor_fetchTwo_5 : decode (rm_code mProcessor_fetchTwo) 5 = .ok (.iload_n 1, 1) := by decide +kernel
theorem d_Processor_fetchTwo_6 : decode (rm_code mProcessor_fetchTwo) 6 = .ok (.aload_n 0, 1) := by decide +kernel
theorem d_Processor_fetchTwo_7 : decode (rm_code mProcessor_fetchTwo) 7 = .ok (.invokevirtual 94, 3) := by decide +kernel
theorem d_Processor_fetchTwo_10 : decode (rm_code mProcessor_fetchTwo) 10 = .ok (.bipush (8), 2) := by decide +kernel
theorem d_Processor_fetchTwo_12 : decode (rm_code mProcessor_fetchTwo) 12 = .ok (.ishl, 1) := by decide +kernel
theorem d_Processor_fetchTwo_13 : decode (rm_code mProcessor_fetchTwo) 13 = .ok (.ior, 1) := by decide +kernel
theorem d_Processor_fetchTwo_14 : decode (rm_code mProcessor_fetchTwo) 14 = .ok (.ireturn, 1) := by decide +kernel
theorem p_Processor_fetchTwo_0 {S : rz_S} {K : Int32 → rz_S → Prop} (w : rz_ev mProcessor_fetch [.ref 37] S (rz_i (fun xq1 Sq1 => rz_ev mProcessor_fetch [.ref 37] Sq1 (rz_i (fun xq2 Sq2 => K (xq1 ||| (xq2 <<< ((8 : Int32) &&& 31))) Sq2))))) : rz mProcessor_fetchTwo 0 [(0, .ref 37)] [] S (rz_i K) := by
  refine rz_pure (pc' := 1) d_Processor_fetchTwo_0 rfl ?_
  refine rz_callVi (t := []) d_Processor_fetchTwo_1 w_7_94 rfl rfl rfl w (fun xq1 Sq1 q1 => ?_)
  refine rz_pure (pc' := 5) (l' := [(1, .int xq1), (0, .ref 37)]) d_Processor_fetchTwo_4 rfl ?_
  refine rz_pure (pc' := 6) d_Processor_fetchTwo_5 rfl ?_
  refine rz_pure (pc' := 7) d_Processor_fetchTwo_6 rfl ?_
  refine rz_callVi (t := []) d_Processor_fetchTwo_7 w_7_94 rfl rfl rfl q1 (fun xq2 Sq2 q2 => ?_)
  refine rz_bipush (v := 8) d_Processor_fetchTwo_10 (by decide) ?_
  refine rz_ishl d_Processor_fetchTwo_12 ?_
  refine rz_ior d_Processor_fetchTwo_13 ?_
  exact rz_ireti d_Processor_fetchTwo_14 rfl rfl q2
theorem d_Processor_indexed_0 : decode (rm_code mProcessor_indexed) 0 = .ok (.aload_n 0, 1) := by decide +kernel
theorem d_Processor_indexed_1 : decode (rm_code mProcessor_indexed) 1 = .ok (.iload_n 1, 1) := by decide +kernel
theorem d_Processor_indexed_2 : decode (rm_code mProcessor_indexed) 2 = .ok (.iload_n 2, 1) := by decide +kernel
theorem d_Processor_indexed_3 : decode (rm_code mProcessor_indexed) 3 = .ok (.iadd, 1) := by decide +kernel
theorem d_Processor_indexed_4 : decode (rm_code mProcessor_indexed) 4 = .ok (.putfield 69, 3) := by decide +kernel
theorem d_Processor_indexed_7 : decode (rm_code mProcessor_indexed) 7 = .ok (.aload_n 0, 1) := by decide +kernel
theorem d_Processor_indexed_8 : decode (rm_code mProcessor_indexed) 8 = .ok (.iload_n 1, 1) := by decide +kernel
theorem d_Processor_indexed_9 : decode (rm_code mProcessor_indexed) 9 = .ok (.sipush (255), 3) := by decide +kernel
theorem d_Processor_indexed_12 : decode (rm_code mProcessor_indexed) 12 = .ok (.iand, 1) := by decide +kernel
theorem d_Processor_indexed_13 : decode (rm_code mProcessor_indexed) 13 = .ok (.iload_n 2, 1) := by decide +kernel
theorem d_Processor_indexed_14 : decode (rm_code mProcessor_indexed) 14 = .ok (.iadd, 1) := by decide +kernel
theorem d_Processor_indexed_15 : decode (rm_code mProcessor_indexed) 15 = .ok (.sipush (255), 3) := by decide +kernel
theorem d_Processor_indexed_18 : decode (rm_code mProcessor_indexed) 18 = .ok (.if_icmp .le (7), 3) := by decide +kernel
theorem d_Processor_indexed_21 : decode (rm_code mProcessor_indexed) 21 = .ok (.iconst 1, 1) := by decide +kernel
theorem d_Processor_indexed_22 : decode (rm_code mProcessor_indexed) 22 = .ok (.goto (4), 3) := by decide +kernel
theorem d_Processor_indexed_25 : decode (rm_code mProcessor_indexed) 25 = .ok (.iconst 0, 1) := by decide +kernel
theorem d_Processor_indexed_26 : decode (rm_code mProcessor_indexed) 26 = .ok (.putfield 65, 3) := by decide +kernel
theorem d_Processor_indexed_29 : decode (rm_code mProcessor_indexed) 29 = .ok (.return_, 1) := by decide +kernel
theorem p_Processor_indexed_0 {S : rz_S} {K : rz_S → Prop} {a1 : Int32} {a2 : Int32} (w : (((a1 &&& 255) + a2 ≤ 255 → K (rz_uI (rz_uI S 37 8 (a1 + a2)) 37 9 0)) ∧ (¬ (a1 &&& 255) + a2 ≤ 255 → K (rz_uI (rz_uI S 37 8 (a1 + a2)) 37 9 1)))) : rz mProcessor_indexed 0 [(0, .ref 37), (1, .int a1), (2, .int a2)] [] S (rz_v K) := by
  refine rz_pure (pc' := 1) d_Processor_indexed_0 rfl ?_
  refine rz_pure (pc' := 2) d_Processor_indexed_1 rfl ?_
  refine rz_pure (pc' := 3) d_Processor_indexed_2 rfl ?_
  refine rz_iadd d_Processor_indexed_3 ?_
  refine rz_puti d_Processor_indexed_4 f_7_69 rfl rfl rfl ?_
  refine rz_pure (pc' := 8) d_Processor_indexed_7 rfl ?_
  refine rz_pure (pc' := 9) d_Processor_indexed_8 rfl ?_
  refine rz_sipush (v := 255) d_Processor_indexed_9 (by decide) ?_
  refine rz_iand d_Processor_indexed_12 ?_
  refine rz_pure (pc' := 14) d_Processor_indexed_13 rfl ?_
  refine rz_iadd d_Processor_indexed_14 ?_
  refine rz_sipush (v := 255) d_Processor_indexed_15 (by decide) ?_
  refine rz_icmple (tgt := 25) d_Processor_indexed_18 rfl (fun b1 => ?_) (fun b1 => ?_)
  · skip
    refine rz_iconst (v := 0) d_Processor_indexed_25 (by decide) ?_
    refine rz_puti d_Processor_indexed_26 f_7_65 rfl rfl (by decide) ?_
    exact rz_vretv d_Processor_indexed_29 rfl (w.1 b1)
  · skip
    refine rz_iconst (v := 1) d_Processor_indexed_21 (by decide) ?_
    refine rz_pure (pc' := 26) d_Processor_indexed_22 rfl ?_
    refine rz_puti d_Processor_indexed_26 f_7_65 rfl rfl (by decide) ?_
    exact rz_vretv d_Processor_indexed_29 rfl (w.2 b1)
theorem d_Processor_pair_0 : decode (rm_code mProcessor_pair) 0 = .ok (.aload_n 0, 1) := by decide +kernel
theorem d_Processor_pair_1 : decode (rm_code mProcessor_pair) 1 = .ok (.getfield 9, 3) := by decide +kernel
theorem d_Processor_pair_4 : decode (rm_code mProcessor_pair) 4 = .ok (.iload_n 1, 1) := by decide +kernel
theorem d_Processor_pair_5 : decode (rm_code mProcessor_pair) 5 = .ok (.sipush (255), 3) := by decide +kernel
theorem d_Processor_pair_8 : decode (rm_code mProcessor_pair) 8 = .ok (.iand, 1) := by decide +kernel
theorem d_Processor_pair_9 : decode (rm_code mProcessor_pair) 9 = .ok (.iaload, 1) := by decide +kernel
theorem d_Processor_pair_10 : decode (rm_code mProcessor_pair) 10 = .ok (.aload_n 0, 1) := by decide +kernel
theorem d_Processor_pair_11 : decode (rm_code mProcessor_pair) 11 = .ok (.getfield 9, 3) := by decide +kernel
theorem d_Processor_pair_14 : decode (rm_code mProcessor_pair) 14 = .ok (.iload_n 1, 1) := by decide +kernel
theorem d_Processor_pair_15 : decode (rm_code mProcessor_pair) 15 = .ok (.iconst 1, 1) := by decide +kernel
theorem d_Processor_pair_16 : decode (rm_code mProcessor_pair) 16 = .ok (.iadd, 1) := by decide +kernel
theorem d_Processor_pair_17 : decode (rm_code mProcessor_pair) 17 = .ok (.sipush (255), 3) := by decide +kernel
theorem d_Processor_pair_20 : decode (rm_code mProcessor_pair) 20 = .ok (.iand, 1) := by decide +kernel
theorem d_Processor_pair_21 : decode (rm_code mProcessor_pair) 21 = .ok (.iaload, 1) := by decide +kernel
theorem d_Processor_pair_22 : decode (rm_code mProcessor_pair) 22 = .ok (.bipush (8), 2) := by decide +kernel
theorem d_Processor_pair_24 : decode (rm_code mProcessor_pair) 24 = .ok (.ishl, 1) := by decide +kernel
theorem d_Processor_pair_25 : decode (rm_code mProcessor_pair) 25 = .ok (.ior, 1) := by decide +kernel
theorem d_Processor_pair_26 : decode (rm_code mProcessor_pair) 26 = .ok (.ireturn, 1) := by decide +kernel
theorem p_Processor_pair_0 {S : rz_S} {K : Int32 → rz_S → Prop} {a1 : Int32} (w : rx_in (a1 &&& 255) 2048 = true ∧ rx_in ((a1 + 1) &&& 255) 2048 = true ∧ K ((S.1 38 ((a1 &&& 255).toNatClampNeg)) ||| ((S.1 38 (((a1 + 1) &&& 255).toNatClampNeg)) <<< ((8 : Int32) &&& 31))) S) : rz mProcessor_pair 0 [(0, .ref 37), (1, .int a1)] [] S (rz_i K) := by
  refine rz_pure (pc' := 1) d_Processor_pair_0 rfl ?_
  refine rz_getr d_Processor_pair_1 f_7_9 rfl rfl ?_
  refine rz_pure (pc' := 5) d_Processor_pair_4 rfl ?_
  refine rz_sipush (v := 255) d_Processor_pair_5 (by decide) ?_
  refine rz_iand d_Processor_pair_8 ?_
  refine rz_ialdv (F := S.1 38) (i := (a1 &&& 255).toNatClampNeg) d_Processor_pair_9 rfl w.1 rfl rfl ?_
  refine rz_pure (pc' := 11) d_Processor_pair_10 rfl ?_
  refine rz_getr d_Processor_pair_11 f_7_9 rfl rfl ?_
  refine rz_pure (pc' := 15) d_Processor_pair_14 rfl ?_
  refine rz_iconst (v := 1) d_Processor_pair_15 (by decide) ?_
  refine rz_iadd d_Processor_pair_16 ?_
  refine rz_sipush (v := 255) d_Processor_pair_17 (by decide) ?_
  refine rz_iand d_Processor_pair_20 ?_
  refine rz_ialdv (F := S.1 38) (i := ((a1 + 1) &&& 255).toNatClampNeg) d_Processor_pair_21 rfl w.2.1 rfl rfl ?_
  refine rz_bipush (v := 8) d_Processor_pair_22 (by decide) ?_
  refine rz_ishl d_Processor_pair_24 ?_
  refine rz_ior d_Processor_pair_25 ?_
  exact rz_ireti d_Processor_pair_26 rfl rfl w.2.2
theorem d_Processor_perform_0 : decode (rm_code mProcessor_perform) 0 = .ok (.iload_n 1, 1) := by decide +kernel
theorem d_Processor_perform_1 : decode (rm_code mProcessor_perform) 1 = .ok (.bipush (12), 2) := by decide +kernel
theorem d_Processor_perform_3 : decode (rm_code mProcessor_perform) 3 = .ok (.if_icmp .gt (40), 3) := by decide +kernel
theorem d_Processor_perform_6 : decode (rm_code mProcessor_perform) 6 = .ok (.aload_n 0, 1) := by decide +kernel
theorem d_Processor_perform_7 : decode (rm_code mProcessor_perform) 7 = .ok (.dup, 1) := by decide +kernel
theorem d_Processor_perform_8 : decode (rm_code mProcessor_perform) 8 = .ok (.getfield 42, 3) := by decide +kernel
theorem d_Processor_perform_11 : decode (rm_code mProcessor_perform) 11 = .ok (.aload_n 0, 1) := by decide +kernel
theorem d_Processor_perform_12 : decode (rm_code mProcessor_perform) 12 = .ok (.getfield 65, 3) := by decide +kernel
theorem d_Processor_perform_15 : decode (rm_code mProcessor_perform) 15 = .ok (.ifCond .eq (7), 3) := by decide +kernel
theorem d_Processor_perform_18 : decode (rm_code mProcessor_perform) 18 = .ok (.iconst 1, 1) := by decide +kernel
theorem d_Processor_perform_19 : decode (rm_code mProcessor_perform) 19 = .ok (.goto (4), 3) := by decide +kernel
theorem d_Processor_perform_22 : decode (rm_code mProcessor_perform) 22 = .ok (.iconst 0, 1) := by decide +kernel
theorem d_Processor_perform_23 : decode (rm_code mProcessor_perform) 23 = .ok (.iadd, 1) := by decide +kernel
theorem d_Processor_perform_24 : decode (rm_code mProcessor_perform) 24 = .ok (.putfield 42, 3) := by decide +kernel
theorem d_Processor_perform_27 : decode (rm_code mProcessor_perform) 27 = .ok (.aload_n 0, 1) := by decide +kernel
theorem d_Processor_perform_28 : decode (rm_code mProcessor_perform) 28 = .ok (.iload_n 1, 1) := by decide +kernel
theorem d_Processor_perform_29 : decode (rm_code mProcessor_perform) 29 = .ok (.aload_n 0, 1) := by decide +kernel
theorem d_Processor_perform_30 : decode (rm_code mProcessor_perform) 30 = .ok (.aload_n 0, 1) := by decide +kernel
theorem d_Processor_perform_31 : decode (rm_code mProcessor_perform) 31 = .ok (.getfield 69, 3) := by decide +kernel
theorem d_Processor_perform_34 : decode (rm_code mProcessor_perform) 34 = .ok (.invokevirtual 45, 3) := by decide +kernel
theorem d_Processor_perform_37 : decode (rm_code mProcessor_perform) 37 = .ok (.invokevirtual 72, 3) := by decide +kernel
theorem d_Processor_perform_40 : decode (rm_code mProcessor_perform) 40 = .ok (.goto (121), 3) := by decide +kernel
theorem d_Processor_perform_43 : decode (rm_code mProcessor_perform) 43 = .ok (.iload_n 1, 1) := by decide +kernel
theorem d_Processor_perform_44 : decode (rm_code mProcessor_perform) 44 = .ok (.bipush (15), 2) := by decide +kernel
theorem d_Processor_perform_46 : decode (rm_code mProcessor_perform) 46 = .ok (.if_icmp .gt (44), 3) := by decide +kernel
theorem d_Processor_perform_49 : decode (rm_code mProcessor_perform) 49 = .ok (.aload_n 0, 1) := by decide +kernel
theorem d_Processor_perform_50 : decode (rm_code mProcessor_perform) 50 = .ok (.aload_n 0, 1) := by decide +kernel
theorem d_Processor_perform_51 : decode (rm_code mProcessor_perform) 51 = .ok (.getfield 69, 3) := by decide +kernel
theorem d_Processor_perform_54 : decode (rm_code mProcessor_perform) 54 = .ok (.iload_n 1, 1) := by decide +kernel
theorem d_Processor_perform_55 : decode (rm_code mProcessor_perform) 55 = .ok (.bipush (13), 2) := by decide +kernel
theorem d_Processor_perform_57 : decode (rm_code mProcessor_perform) 57 = .ok (.if_icmp .ne (10), 3) := by decide +kernel
theorem d_Processor_perform_60 : decode (rm_code mProcessor_perform) 60 = .ok (.aload_n 0, 1) := by decide +kernel
theorem d_Processor_perform_61 : decode (rm_code mProcessor_perform) 61 = .ok (.getfield 30, 3) := by decide +kernel
theorem d_Processor_perform_64 : decode (rm_code mProcessor_perform) 64 = .ok (.goto (20), 3) := by decide +kernel
theorem d_Processor_perform_67 : decode (rm_code mProcessor_perform) 67 = .ok (.iload_n 1, 1) := by decide +kernel
theorem d_Processor_perform_68 : decode (rm_code mProcessor_perform) 68 = .ok (.bipush (14), 2) := by decide +kernel
theorem d_Processor_perform_70 : decode (rm_code mProcessor_perform) 70 = .ok (.if_icmp .ne (10), 3) := by decide +kernel
theorem d_Processor_perform_73 : decode (rm_code mProcessor_perform) 73 = .ok (.aload_n 0, 1) := by decide +kernel
theorem d_Processor_perform_74 : decode (rm_code mProcessor_perform) 74 = .ok (.getfield 33, 3) := by decide +kernel
theorem d_Processor_perform_77 : decode (rm_code mProcessor_perform) 77 = .ok (.goto (7), 3) := by decide +kernel
theorem d_Processor_perform_80 : decode (rm_code mProcessor_perform) 80 = .ok (.aload_n 0, 1) := by decide +kernel
theorem d_Processor_perform_81 : decode (rm_code mProcessor_perform) 81 = .ok (.getfield 36, 3) := by decide +kernel
theorem d_Processor_perform_84 : decode (rm_code mProcessor_perform) 84 = .ok (.invokevirtual 75, 3) := by decide +kernel
theorem d_Processor_perform_87 : decode (rm_code mProcessor_perform) 87 = .ok (.goto (74), 3) := by decide +kernel
theorem d_Processor_perform_90 : decode (rm_code mProcessor_perform) 90 = .ok (.iload_n 1, 1) := by decide +kernel
theorem d_Processor_perform_91 : decode (rm_code mProcessor_perform) 91 = .ok (.bipush (21), 2) := by decide +kernel
theorem d_Processor_perform_93 : decode (rm_code mProcessor_perform) 93 = .ok (.if_icmp .gt (21), 3) := by decide +kernel
theorem d_Processor_perform_96 : decode (rm_code mProcessor_perform) 96 = .ok (.aload_n 0, 1) := by decide +kernel
theorem d_Processor_perform_97 : decode (rm_code mProcessor_perform) 97 = .ok (.iload_n 1, 1) := by decide +kernel
theorem d_Processor_perform_98 : decode (rm_code mProcessor_perform) 98 = .ok (.iload_n 2, 1) := by decide +kernel
theorem d_Processor_perform_99 : decode (rm_code mProcessor_perform) 99 = .ok (.iconst 1, 1) := by decide +kernel
theorem d_Processor_perform_100 : decode (rm_code mProcessor_perform) 100 = .ok (.if_icmp .ne (7), 3) := by decide +kernel
theorem d_Processor_perform_103 : decode (rm_code mProcessor_perform) 103 = .ok (.iconst 1, 1) := by decide +kernel
theorem d_Processor_perform_104 : decode (rm_code mProcessor_perform) 104 = .ok (.goto (4), 3) := by decide +kernel
theorem d_Processor_perform_107 : decode (rm_code mProcessor_perform) 107 = .ok (.iconst 0, 1) := by decide +kernel
theorem d_Processor_perform_108 : decode (rm_code mProcessor_perform) 108 = .ok (.invokevirtual 78, 3) := by decide +kernel
theorem d_Processor_perform_111 : decode (rm_code mProcessor_perform) 111 = .ok (.goto (50), 3) := by decide +kernel
theorem d_Processor_perform_114 : decode (rm_code mProcessor_perform) 114 = .ok (.iload_n 1, 1) := by decide +kernel
theorem d_Processor_perform_115 : decode (rm_code mProcessor_perform) 115 = .ok (.bipush (29), 2) := by decide +kernel
theorem d_Processor_perform_117 : decode (rm_code mProcessor_perform) 117 = .ok (.if_icmp .gt (11), 3) := by decide +kernel
theorem d_Processor_perform_120 : decode (rm_code mProcessor_perform) 120 = .ok (.aload_n 0, 1) := by decide +kernel
theorem d_Processor_perform_121 : decode (rm_code mProcessor_perform) 121 = .ok (.iload_n 1, 1) := by decide +kernel
theorem d_Processor_perform_122 : decode (rm_code mProcessor_perform) 122 = .ok (.invokevirtual 82, 3) := by decide +kernel
theorem d_Processor_perform_125 : decode (rm_code mProcessor_perform) 125 = .ok (.goto (36), 3) := by decide +kernel
theorem d_Processor_perform_128 : decode (rm_code mProcessor_perform) 128 = .ok (.iload_n 1, 1) := by decide +kernel
theorem d_Processor_perform_129 : decode (rm_code mProcessor_perform) 129 = .ok (.bipush (39), 2) := by decide +kernel
theorem d_Processor_perform_131 : decode (rm_code mProcessor_perform) 131 = .ok (.if_icmp .gt (11), 3) := by decide +kernel
theorem d_Processor_perform_134 : decode (rm_code mProcessor_perform) 134 = .ok (.aload_n 0, 1) := by decide +kernel
theorem d_Processor_perform_135 : decode (rm_code mProcessor_perform) 135 = .ok (.iload_n 1, 1) := by decide +kernel
theorem d_Processor_perform_136 : decode (rm_code mProcessor_perform) 136 = .ok (.invokevirtual 85, 3) := by decide +kernel
theorem d_Processor_perform_139 : decode (rm_code mProcessor_perform) 139 = .ok (.goto (22), 3) := by decide +kernel
theorem d_Processor_perform_142 : decode (rm_code mProcessor_perform) 142 = .ok (.iload_n 1, 1) := by decide +kernel
theorem d_Processor_perform_143 : decode (rm_code mProcessor_perform) 143 = .ok (.bipush (47), 2) := by decide +kernel
theorem d_Processor_perform_145 : decode (rm_code mProcessor_perform) 145 = .ok (.if_icmp .gt (11), 3) := by decide +kernel
theorem d_Processor_perform_148 : decode (rm_code mProcessor_perform) 148 = .ok (.aload_n 0, 1) := by decide +kernel
theorem d_Processor_perform_149 : decode (rm_code mProcessor_perform) 149 = .ok (.iload_n 1, 1) := by decide +kernel
theorem d_Processor_perform_150 : decode (rm_code mProcessor_perform) 150 = .ok (.invokevirtual 88, 3) := by decide +kernel
theorem d_Processor_perform_153 : decode (rm_code mProcessor_perform) 153 = .ok (.goto (8), 3) := by decide +kernel
theorem d_Processor_perform_156 : decode (rm_code mProcessor_perform) 156 = .ok (.aload_n 0, 1) := by decide +kernel
theorem d_Processor_perform_157 : decode (rm_code mProcessor_perform) 157 = .ok (.iload_n 1, 1) := by decide +kernel
theorem d_Processor_perform_158 : decode (rm_code mProcessor_perform) 158 = .ok (.invokevirtual 91, 3) := by decide +kernel
theorem d_Processor_perform_161 : decode (rm_code mProcessor_perform) 161 = .ok (.return_, 1) := by decide +kernel
theorem p_Processor_perform_0 {S : rz_S} {K : rz_S → Prop} {a1 : Int32} {a2 : Int32} (w : ((12 < a1 → ((15 < a1 → ((21 < a1 → ((29 < a1 → ((39 < a1 → ((47 < a1 → rz_ev mProcessor_stack [.ref 37, .int a1] S (rz_v (fun Sq7 => K Sq7))) ∧ (¬ 47 < a1 → rz_ev mProcessor_changeFlag [.ref 37, .int a1] S (rz_v (fun Sq8 => K Sq8))))) ∧ (¬ 39 < a1 → rz_ev mProcessor_move [.ref 37, .int a1] S (rz_v (fun Sq9 => K Sq9))))) ∧ (¬ 29 < a1 → rz_ev mProcessor_branch [.ref 37, .int a1] S (rz_v (fun Sq10 => K Sq10))))) ∧ (¬ 21 < a1 → ((a2 = 1 → rz mProcessor_perform 108 [] [.int 1, .int a1, .ref 37] S (rz_v K)) ∧ (¬ a2 = 1 → rz mProcessor_perform 108 [] [.int 0, .int a1, .ref 37] S (rz_v K)))))) ∧ (¬ 15 < a1 → ((a1 = 13 → rz mProcessor_perform 84 [] [.int (S.2 37 0), .int (S.2 37 8), .ref 37] S (rz_v K)) ∧ (¬ a1 = 13 → ((a1 = 14 → rz mProcessor_perform 84 [] [.int (S.2 37 1), .int (S.2 37 8), .ref 37] S (rz_v K)) ∧ (¬ a1 = 14 → rz mProcessor_perform 84 [] [.int (S.2 37 2), .int (S.2 37 8), .ref 37] S (rz_v K)))))))) ∧ (¬ 12 < a1 → ((S.2 37 9 = 0 → rz mProcessor_perform 23 [(0, .ref 37), (1, .int a1)] [.int 0, .int (S.2 37 6), .ref 37] S (rz_v K)) ∧ (¬ S.2 37 9 = 0 → rz mProcessor_perform 23 [(0, .ref 37), (1, .int a1)] [.int 1, .int (S.2 37 6), .ref 37] S (rz_v K)))))) : rz mProcessor_perform 0 [(0, .ref 37), (1, .int a1), (2, .int a2)] [] S (rz_v K) := by
  refine rz_pure (pc' := 1) d_Processor_perform_0 rfl ?_
  refine rz_bipush (v := 12) d_Processor_perform_1 (by decide) ?_
  refine rz_icmpgt (tgt := 43) d_Processor_perform_3 rfl (fun b1 => ?_) (fun b1 => ?_)
  · skip
    refine rz_pure (pc' := 44) d_Processor_perform_43 rfl ?_
    refine rz_bipush (v := 15) d_Processor_perform_44 (by decide) ?_
    refine rz_icmpgt (tgt := 90) d_Processor_perform_46 rfl (fun b2 => ?_) (fun b2 => ?_)
    · skip
      refine rz_pure (pc' := 91) d_Processor_perform_90 rfl ?_
      refine rz_bipush (v := 21) d_Processor_perform_91 (by decide) ?_
      refine rz_icmpgt (tgt := 114) d_Processor_perform_93 rfl (fun b3 => ?_) (fun b3 => ?_)
      · skip
        refine rz_pure (pc' := 115) d_Processor_perform_114 rfl ?_
        refine rz_bipush (v := 29) d_Processor_perform_115 (by decide) ?_
        refine rz_icmpgt (tgt := 128) d_Processor_perform_117 rfl (fun b4 => ?_) (fun b4 => ?_)
        · skip
          refine rz_pure (pc' := 129) d_Processor_perform_128 rfl ?_
          refine rz_bipush (v := 39) d_Processor_perform_129 (by decide) ?_
          refine rz_icmpgt (tgt := 142) d_Processor_perform_131 rfl (fun b5 => ?_) (fun b5 => ?_)
          · skip
            refine rz_pure (pc' := 143) d_Processor_perform_142 rfl ?_
            refine rz_bipush (v := 47) d_Processor_perform_143 (by decide) ?_
            refine rz_icmpgt (tgt := 156) d_Processor_perform_145 rfl (fun b6 => ?_) (fun b6 => ?_)
            · skip
              refine rz_pure (pc' := 157) d_Processor_perform_156 rfl ?_
              refine rz_pure (pc' := 158) d_Processor_perform_157 rfl ?_
              refine rz_callVv (t := [.int a1]) d_Processor_perform_158 w_7_91 rfl rfl rfl ((((((w.1 b1).1 b2).1 b3).1 b4).1 b5).1 b6) (fun Sq7 q7 => ?_)
              exact rz_vretv d_Processor_perform_161 rfl q7
            · skip
              refine rz_pure (pc' := 149) d_Processor_perform_148 rfl ?_
              refine rz_pure (pc' := 150) d_Processor_perform_149 rfl ?_
              refine rz_callVv (t := [.int a1]) d_Processor_perform_150 w_7_88 rfl rfl rfl ((((((w.1 b1).1 b2).1 b3).1 b4).1 b5).2 b6) (fun Sq8 q8 => ?_)
              refine rz_pure (pc' := 161) d_Processor_perform_153 rfl ?_
              exact rz_vretv d_Processor_perform_161 rfl q8
          · skip
            refine rz_pure (pc' := 135) d_Processor_perform_134 rfl ?_
            refine rz_pure (pc' := 136) d_Processor_perform_135 rfl ?_
            refine rz_callVv (t := [.int a1]) d_Processor_perform_136 w_7_85 rfl rfl rfl (((((w.1 b1).1 b2).1 b3).1 b4).2 b5) (fun Sq9 q9 => ?_)
            refine rz_pure (pc' := 161) d_Processor_perform_139 rfl ?_
            exact rz_vretv d_Processor_perform_161 rfl q9
        · skip
          refine rz_pure (pc' := 121) d_Processor_perform_120 rfl ?_
          refine rz_pure (pc' := 122) d_Processor_perform_121 rfl ?_
          refine rz_callVv (t := [.int a1]) d_Processor_perform_122 w_7_82 rfl rfl rfl ((((w.1 b1).1 b2).1 b3).2 b4) (fun Sq10 q10 => ?_)
          refine rz_pure (pc' := 161) d_Processor_perform_125 rfl ?_
          exact rz_vretv d_Processor_perform_161 rfl q10
      · skip
        refine rz_pure (pc' := 97) d_Processor_perform_96 rfl ?_
        refine rz_pure (pc' := 98) d_Processor_perform_97 rfl ?_
        refine rz_pure (pc' := 99) d_Processor_perform_98 rfl ?_
        refine rz_iconst (v := 1) d_Processor_perform_99 (by decide) ?_
        refine rz_icmpne (tgt := 107) d_Processor_perform_100 rfl (fun b11 => ?_) (fun b11 => ?_)
        · skip
          refine rz_iconst (v := 0) d_Processor_perform_107 (by decide) ?_
          exact rz_pick (ks := []) (l := []) rfl rfl (by decide) rfl ((((w.1 b1).1 b2).2 b3).2 b11)
        · skip
          refine rz_iconst (v := 1) d_Processor_perform_103 (by decide) ?_
          refine rz_pure (pc' := 108) d_Processor_perform_104 rfl ?_
          exact rz_pick (ks := []) (l := []) rfl rfl (by decide) rfl ((((w.1 b1).1 b2).2 b3).1 b11)
    · skip
      refine rz_pure (pc' := 50) d_Processor_perform_49 rfl ?_
      refine rz_pure (pc' := 51) d_Processor_perform_50 rfl ?_
      refine rz_getiv (v := S.2 37 8) d_Processor_perform_51 f_7_69 rfl rfl rfl ?_
      refine rz_pure (pc' := 55) d_Processor_perform_54 rfl ?_
      refine rz_bipush (v := 13) d_Processor_perform_55 (by decide) ?_
      refine rz_icmpne (tgt := 67) d_Processor_perform_57 rfl (fun b12 => ?_) (fun b12 => ?_)
      · skip
        refine rz_pure (pc' := 68) d_Processor_perform_67 rfl ?_
        refine rz_bipush (v := 14) d_Processor_perform_68 (by decide) ?_
        refine rz_icmpne (tgt := 80) d_Processor_perform_70 rfl (fun b13 => ?_) (fun b13 => ?_)
        · skip
          refine rz_pure (pc' := 81) d_Processor_perform_80 rfl ?_
          refine rz_getiv (v := S.2 37 2) d_Processor_perform_81 f_7_36 rfl rfl rfl ?_
          exact rz_pick (ks := []) (l := []) rfl rfl (by decide) rfl ((((w.1 b1).2 b2).2 b12).2 b13)
        · skip
          refine rz_pure (pc' := 74) d_Processor_perform_73 rfl ?_
          refine rz_getiv (v := S.2 37 1) d_Processor_perform_74 f_7_33 rfl rfl rfl ?_
          refine rz_pure (pc' := 84) d_Processor_perform_77 rfl ?_
          exact rz_pick (ks := []) (l := []) rfl rfl (by decide) rfl ((((w.1 b1).2 b2).2 b12).1 b13)
      · skip
        refine rz_pure (pc' := 61) d_Processor_perform_60 rfl ?_
        refine rz_getiv (v := S.2 37 0) d_Processor_perform_61 f_7_30 rfl rfl rfl ?_
        refine rz_pure (pc' := 84) d_Processor_perform_64 rfl ?_
        exact rz_pick (ks := []) (l := []) rfl rfl (by decide) rfl (((w.1 b1).2 b2).1 b12)
  · skip
    refine rz_pure (pc' := 7) d_Processor_perform_6 rfl ?_
    refine rz_pure (pc' := 8) d_Processor_perform_7 rfl ?_
    refine rz_getiv (v := S.2 37 6) d_Processor_perform_8 f_7_42 rfl rfl rfl ?_
    refine rz_pure (pc' := 12) d_Processor_perform_11 rfl ?_
    refine rz_getiv (v := S.2 37 9) d_Processor_perform_12 f_7_65 rfl rfl rfl ?_
    refine rz_ifeq (tgt := 22) d_Processor_perform_15 rfl (fun b14 => ?_) (fun b14 => ?_)
    · skip
      refine rz_iconst (v := 0) d_Processor_perform_22 (by decide) ?_
      exact rz_pick (ks := [0, 1]) (l := [(0, .ref 37), (1, .int a1)]) rfl rfl (by decide) rfl ((w.2 b1).1 b14)
    · skip
      refine rz_iconst (v := 1) d_Processor_perform_18 (by decide) ?_
      refine rz_pure (pc' := 23) d_Processor_perform_19 rfl ?_
      exact rz_pick (ks := [0, 1]) (l := [(0, .ref 37), (1, .int a1)]) rfl rfl (by decide) rfl ((w.2 b1).2 b14)
theorem p_Processor_perform_108 {S : rz_S} {K : rz_S → Prop} {s0 : Int32} {s1 : Int32} (w : rz_ev mProcessor_changeValue [.ref 37, .int s1, .int s0] S (rz_v (fun Sq1 => K Sq1))) : rz mProcessor_perform 108 [] [.int s0, .int s1, .ref 37] S (rz_v K) := by
  refine rz_callVv (t := [.int s0, .int s1]) d_Processor_perform_108 w_7_78 rfl rfl rfl w (fun Sq1 q1 => ?_)
  refine rz_pure (pc' := 161) d_Processor_perform_111 rfl ?_
  exact rz_vretv d_Processor_perform_161 rfl q1
theorem p_Processor_perform_84 {S : rz_S} {K : rz_S → Prop} {s0 : Int32} {s1 : Int32} (w : rz_ev mProcessor_set [.ref 37, .int s1, .int s0] S (rz_v (fun Sq1 => K Sq1))) : rz mProcessor_perform 84 [] [.int s0, .int s1, .ref 37] S (rz_v K) := by
  refine rz_callVv (t := [.int s0, .int s1]) d_Processor_perform_84 w_7_75 rfl rfl rfl w (fun Sq1 q1 => ?_)
  refine rz_pure (pc' := 161) d_Processor_perform_87 rfl ?_
  exact rz_vretv d_Processor_perform_161 rfl q1
theorem p_Processor_perform_23 {S : rz_S} {K : rz_S → Prop} {a1 : Int32} {s0 : Int32} {s1 : Int32} (w : rz_ev mProcessor_get [.ref 37, .int (S.2 37 8)] (rz_uI S 37 6 (s1 + s0)) (rz_i (fun xq1 Sq1 => rz_ev mProcessor_useValue [.ref 37, .int a1, .int xq1] Sq1 (rz_v (fun Sq2 => K Sq2))))) : rz mProcessor_perform 23 [(0, .ref 37), (1, .int a1)] [.int s0, .int s1, .ref 37] S (rz_v K) := by
  refine rz_iadd d_Processor_perform_23 ?_
  refine rz_puti d_Processor_perform_24 f_7_42 rfl rfl rfl ?_
  refine rz_pure (pc' := 28) d_Processor_perform_27 rfl ?_
  refine rz_pure (pc' := 29) d_Processor_perform_28 rfl ?_
  refine rz_pure (pc' := 30) d_Processor_perform_29 rfl ?_
  refine rz_pure (pc' := 31) d_Processor_perform_30 rfl ?_
  refine rz_getiv (v := S.2 37 8) d_Processor_perform_31 f_7_69 rfl rfl ((rz_uI_n (fun h => absurd h.2 (by decide))).trans rfl) ?_
  refine rz_callVi (t := [.int (S.2 37 8)]) d_Processor_perform_34 w_7_45 rfl rfl rfl w (fun xq1 Sq1 q1 => ?_)
  refine rz_callVv (t := [.int xq1, .int a1]) d_Processor_perform_37 w_7_72 rfl rfl rfl q1 (fun Sq2 q2 => ?_)
  refine rz_pure (pc' := 161) d_Processor_perform_40 rfl ?_
  exact rz_vretv d_Processor_perform_161 rfl q2
theorem d_Processor_useValue_0 : decode (rm_code mProcessor_useValue) 0 = .ok (.iload_n 1, 1) := by decide +kernel
theorem d_Processor_useValue_1 : decode (rm_code mProcessor_useValue) 1 = .ok (.tableswitch (226) (1) (12) #[(63), (75), (87), (150), (158), (99), (116), (133), (226), (226), (226), (166)], 63) := by decide +kernel
theorem d_Processor_useValue_64 : decode (rm_code mProcessor_useValue) 64 = .ok (.aload_n 0, 1) := by decide +kernel
theorem d_Processor_useValue_65 : decode (rm_code mProcessor_useValue) 65 = .ok (.aload_n 0, 1) := by decide +kernel
theorem d_Processor_useValue_66 : decode (rm_code mProcessor_useValue) 66 = .ok (.iload_n 2, 1) := by decide +kernel
theorem d_Processor_useValue_67 : decode (rm_code mProcessor_useValue) 67 = .ok (.invokevirtual 108, 3) := by decide +kernel
theorem d_Processor_useValue_70 : decode (rm_code mProcessor_useValue) 70 = .ok (.putfield 30, 3) := by decide +kernel
theorem d_Processor_useValue_73 : decode (rm_code mProcessor_useValue) 73 = .ok (.goto (189), 3) := by decide +kernel
theorem d_Processor_useValue_76 : decode (rm_code mProcessor_useValue) 76 = .ok (.aload_n 0, 1) := by decide +kernel
theorem d_Processor_useValue_77 : decode (rm_code mProcessor_useValue) 77 = .ok (.aload_n 0, 1) := by decide +kernel
theorem d_Processor_useValue_78 : decode (rm_code mProcessor_useValue) 78 = .ok (.iload_n 2, 1) := by decide +kernel
theorem d_Processor_useValue_79 : decode (rm_code mProcessor_useValue) 79 = .ok (.invokevirtual 108, 3) := by decide +kernel
theorem d_Processor_useValue_82 : decode (rm_code mProcessor_useValue) 82 = .ok (.putfield 33, 3) := by decide +kernel
theorem d_Processor_useValue_85 : decode (rm_code mProcessor_useValue) 85 = .ok (.goto (177), 3) := by decide +kernel
theorem d_Processor_useValue_88 : decode (rm_code mProcessor_useValue) 88 = .ok (.aload_n 0, 1) := by decide +kernel
theorem d_Processor_useValue_89 : decode (rm_code mProcessor_useValue) 89 = .ok (.aload_n 0, 1) := by decide +kernel
theorem d_Processor_useValue_90 : decode (rm_code mProcessor_useValue) 90 = .ok (.iload_n 2, 1) := by decide +kernel
theorem d_Processor_useValue_91 : decode (rm_code mProcessor_useValue) 91 = .ok (.invokevirtual 108, 3) := by decide +kernel
theorem d_Processor_useValue_94 : decode (rm_code mProcessor_useValue) 94 = .ok (.putfield 36, 3) := by decide +kernel
theorem d_Processor_useValue_97 : decode (rm_code mProcessor_useValue) 97 = .ok (.goto (165), 3) := by decide +kernel
theorem d_Processor_useValue_100 : decode (rm_code mProcessor_useValue) 100 = .ok (.aload_n 0, 1) := by decide +kernel
theorem d_Processor_useValue_101 : decode (rm_code mProcessor_useValue) 101 = .ok (.aload_n 0, 1) := by decide +kernel
theorem d_Processor_useValue_102 : decode (rm_code mProcessor_useValue) 102 = .ok (.aload_n 0, 1) := by decide +kernel
theorem d_Processor_useValue_103 : decode (rm_code mProcessor_useValue) 103 = .ok (.getfield 30, 3) := by decide +kernel
theorem d_Processor_useValue_106 : decode (rm_code mProcessor_useValue) 106 = .ok (.iload_n 2, 1) := by decide +kernel
theorem d_Processor_useValue_107 : decode (rm_code mProcessor_useValue) 107 = .ok (.iand, 1) := by decide +kernel
theorem d_Processor_useValue_108 : decode (rm_code mProcessor_useValue) 108 = .ok (.invokevirtual 108, 3) := by decide +kernel
theorem d_Processor_useValue_111 : decode (rm_code mProcessor_useValue) 111 = .ok (.putfield 30, 3) := by decide +kernel
theorem d_Processor_useValue_114 : decode (rm_code mProcessor_useValue) 114 = .ok (.goto (148), 3) := by decide +kernel
theorem d_Processor_useValue_117 : decode (rm_code mProcessor_useValue) 117 = .ok (.aload_n 0, 1) := by decide +kernel
theorem d_Processor_useValue_118 : decode (rm_code mProcessor_useValue) 118 = .ok (.aload_n 0, 1) := by decide +kernel
theorem d_Processor_useValue_119 : decode (rm_code mProcessor_useValue) 119 = .ok (.aload_n 0, 1) := by decide +kernel
theorem d_Processor_useValue_120 : decode (rm_code mProcessor_useValue) 120 = .ok (.getfield 30, 3) := by decide +kernel
theorem d_Processor_useValue_123 : decode (rm_code mProcessor_useValue) 123 = .ok (.iload_n 2, 1) := by decide +kernel
theorem d_Processor_useValue_124 : decode (rm_code mProcessor_useValue) 124 = .ok (.ior, 1) := by decide +kernel
theorem d_Processor_useValue_125 : decode (rm_code mProcessor_useValue) 125 = .ok (.invokevirtual 108, 3) := by decide +kernel
theorem d_Processor_useValue_128 : decode (rm_code mProcessor_useValue) 128 = .ok (.putfield 30, 3) := by decide +kernel
theorem d_Processor_useValue_131 : decode (rm_code mProcessor_useValue) 131 = .ok (.goto (131), 3) := by decide +kernel
theorem d_Processor_useValue_134 : decode (rm_code mProcessor_useValue) 134 = .ok (.aload_n 0, 1) := by decide +kernel
theorem d_Processor_useValue_135 : decode (rm_code mProcessor_useValue) 135 = .ok (.aload_n 0, 1) := by decide +kernel
theorem d_Processor_useValue_136 : decode (rm_code mProcessor_useValue) 136 = .ok (.aload_n 0, 1) := by decide +kernel
theorem d_Processor_useValue_137 : decode (rm_code mProcessor_useValue) 137 = .ok (.getfield 30, 3) := by decide +kernel
theorem d_Processor_useValue_140 : decode (rm_code mProcessor_useValue) 140 = .ok (.iload_n 2, 1) := by decide +kernel
theorem d_Processor_useValue_141 : decode (rm_code mProcessor_useValue) 141 = .ok (.ixor, 1) := by decide +kernel
theorem d_Processor_useValue_142 : decode (rm_code mProcessor_useValue) 142 = .ok (.invokevirtual 108, 3) := by decide +kernel
theorem d_Processor_useValue_145 : decode (rm_code mProcessor_useValue) 145 = .ok (.putfield 30, 3) := by decide +kernel
theorem d_Processor_useValue_148 : decode (rm_code mProcessor_useValue) 148 = .ok (.goto (114), 3) := by decide +kernel
theorem d_Processor_useValue_151 : decode (rm_code mProcessor_useValue) 151 = .ok (.aload_n 0, 1) := by decide +kernel
theorem d_Processor_useValue_152 : decode (rm_code mProcessor_useValue) 152 = .ok (.iload_n 2, 1) := by decide +kernel
theorem d_Processor_useValue_153 : decode (rm_code mProcessor_useValue) 153 = .ok (.invokevirtual 111, 3) := by decide +kernel
theorem d_Processor_useValue_156 : decode (rm_code mProcessor_useValue) 156 = .ok (.goto (106), 3) := by decide +kernel
theorem d_Processor_useValue_159 : decode (rm_code mProcessor_useValue) 159 = .ok (.aload_n 0, 1) := by decide +kernel
theorem d_Processor_useValue_160 : decode (rm_code mProcessor_useValue) 160 = .ok (.iload_n 2, 1) := by decide +kernel
theorem d_Processor_useValue_161 : decode (rm_code mProcessor_useValue) 161 = .ok (.invokevirtual 114, 3) := by decide +kernel
theorem d_Processor_useValue_164 : decode (rm_code mProcessor_useValue) 164 = .ok (.goto (98), 3) := by decide +kernel
theorem d_Processor_useValue_167 : decode (rm_code mProcessor_useValue) 167 = .ok (.aload_n 0, 1) := by decide +kernel
theorem d_Processor_useValue_168 : decode (rm_code mProcessor_useValue) 168 = .ok (.sipush (128), 3) := by decide +kernel
theorem d_Processor_useValue_171 : decode (rm_code mProcessor_useValue) 171 = .ok (.iload_n 2, 1) := by decide +kernel
theorem d_Processor_useValue_172 : decode (rm_code mProcessor_useValue) 172 = .ok (.sipush (128), 3) := by decide +kernel
theorem d_Processor_useValue_175 : decode (rm_code mProcessor_useValue) 175 = .ok (.iand, 1) := by decide +kernel
theorem d_Processor_useValue_176 : decode (rm_code mProcessor_useValue) 176 = .ok (.ifCond .eq (7), 3) := by decide +kernel
theorem d_Processor_useValue_179 : decode (rm_code mProcessor_useValue) 179 = .ok (.iconst 1, 1) := by decide +kernel
theorem d_Processor_useValue_180 : decode (rm_code mProcessor_useValue) 180 = .ok (.goto (4), 3) := by decide +kernel
theorem d_Processor_useValue_183 : decode (rm_code mProcessor_useValue) 183 = .ok (.iconst 0, 1) := by decide +kernel
theorem d_Processor_useValue_184 : decode (rm_code mProcessor_useValue) 184 = .ok (.invokevirtual 117, 3) := by decide +kernel
theorem d_Processor_useValue_187 : decode (rm_code mProcessor_useValue) 187 = .ok (.aload_n 0, 1) := by decide +kernel
theorem d_Processor_useValue_188 : decode (rm_code mProcessor_useValue) 188 = .ok (.bipush (64), 2) := by decide +kernel
theorem d_Processor_useValue_190 : decode (rm_code mProcessor_useValue) 190 = .ok (.iload_n 2, 1) := by decide +kernel
theorem d_Processor_useValue_191 : decode (rm_code mProcessor_useValue) 191 = .ok (.bipush (64), 2) := by decide +kernel
theorem d_Processor_useValue_193 : decode (rm_code mProcessor_useValue) 193 = .ok (.iand, 1) := by decide +kernel
theorem d_Processor_useValue_194 : decode (rm_code mProcessor_useValue) 194 = .ok (.ifCond .eq (7), 3) := by decide +kernel
theorem d_Processor_useValue_197 : decode (rm_code mProcessor_useValue) 197 = .ok (.iconst 1, 1) := by decide +kernel
theorem d_Processor_useValue_198 : decode (rm_code mProcessor_useValue) 198 = .ok (.goto (4), 3) := by decide +kernel
theorem d_Processor_useValue_201 : decode (rm_code mProcessor_useValue) 201 = .ok (.iconst 0, 1) := by decide +kernel
theorem d_Processor_useValue_202 : decode (rm_code mProcessor_useValue) 202 = .ok (.invokevirtual 117, 3) := by decide +kernel
theorem d_Processor_useValue_205 : decode (rm_code mProcessor_useValue) 205 = .ok (.aload_n 0, 1) := by decide +kernel
theorem d_Processor_useValue_206 : decode (rm_code mProcessor_useValue) 206 = .ok (.iconst 2, 1) := by decide +kernel
theorem d_Processor_useValue_207 : decode (rm_code mProcessor_useValue) 207 = .ok (.iload_n 2, 1) := by decide +kernel
theorem d_Processor_useValue_208 : decode (rm_code mProcessor_useValue) 208 = .ok (.aload_n 0, 1) := by decide +kernel
theorem d_Processor_useValue_209 : decode (rm_code mProcessor_useValue) 209 = .ok (.getfield 30, 3) := by decide +kernel
theorem d_Processor_useValue_212 : decode (rm_code mProcessor_useValue) 212 = .ok (.iand, 1) := by decide +kernel
theorem d_Processor_useValue_213 : decode (rm_code mProcessor_useValue) 213 = .ok (.ifCond .ne (7), 3) := by decide +kernel
theorem d_Processor_useValue_216 : decode (rm_code mProcessor_useValue) 216 = .ok (.iconst 1, 1) := by decide +kernel
theorem d_Processor_useValue_217 : decode (rm_code mProcessor_useValue) 217 = .ok (.goto (4), 3) := by decide +kernel
theorem d_Processor_useValue_220 : decode (rm_code mProcessor_useValue) 220 = .ok (.iconst 0, 1) := by decide +kernel
theorem d_Processor_useValue_221 : decode (rm_code mProcessor_useValue) 221 = .ok (.invokevirtual 117, 3) := by decide +kernel
theorem d_Processor_useValue_224 : decode (rm_code mProcessor_useValue) 224 = .ok (.goto (38), 3) := by decide +kernel
theorem d_Processor_useValue_227 : decode (rm_code mProcessor_useValue) 227 = .ok (.aload_n 0, 1) := by decide +kernel
theorem d_Processor_useValue_228 : decode (rm_code mProcessor_useValue) 228 = .ok (.iload_n 1, 1) := by decide +kernel
theorem d_Processor_useValue_229 : decode (rm_code mProcessor_useValue) 229 = .ok (.bipush (9), 2) := by decide +kernel
theorem d_Processor_useValue_231 : decode (rm_code mProcessor_useValue) 231 = .ok (.if_icmp .ne (10), 3) := by decide +kernel
theorem d_Processor_useValue_234 : decode (rm_code mProcessor_useValue) 234 = .ok (.aload_n 0, 1) := by decide +kernel
theorem d_Processor_useValue_235 : decode (rm_code mProcessor_useValue) 235 = .ok (.getfield 30, 3) := by decide +kernel
theorem d_Processor_useValue_238 : decode (rm_code mProcessor_useValue) 238 = .ok (.goto (20), 3) := by decide +kernel
theorem d_Processor_useValue_241 : decode (rm_code mProcessor_useValue) 241 = .ok (.iload_n 1, 1) := by decide +kernel
theorem d_Processor_useValue_242 : decode (rm_code mProcessor_useValue) 242 = .ok (.bipush (10), 2) := by decide +kernel
theorem d_Processor_useValue_244 : decode (rm_code mProcessor_useValue) 244 = .ok (.if_icmp .ne (10), 3) := by decide +kernel
theorem d_Processor_useValue_247 : decode (rm_code mProcessor_useValue) 247 = .ok (.aload_n 0, 1) := by decide +kernel
theorem d_Processor_useValue_248 : decode (rm_code mProcessor_useValue) 248 = .ok (.getfield 33, 3) := by decide +kernel
theorem d_Processor_useValue_251 : decode (rm_code mProcessor_useValue) 251 = .ok (.goto (7), 3) := by decide +kernel
theorem d_Processor_useValue_254 : decode (rm_code mProcessor_useValue) 254 = .ok (.aload_n 0, 1) := by decide +kernel
theorem d_Processor_useValue_255 : decode (rm_code mProcessor_useValue) 255 = .ok (.getfield 36, 3) := by decide +kernel
theorem d_Processor_useValue_258 : decode (rm_code mProcessor_useValue) 258 = .ok (.iload_n 2, 1) := by decide +kernel
theorem d_Processor_useValue_259 : decode (rm_code mProcessor_useValue) 259 = .ok (.invokevirtual 120, 3) := by decide +kernel
theorem d_Processor_useValue_262 : decode (rm_code mProcessor_useValue) 262 = .ok (.return_, 1) := by decide +kernel
theorem p_Processor_useValue_0 {S : rz_S} {K : rz_S → Prop} {a1 : Int32} {a2 : Int32} (w : ((a1.toInt < 1 ∨ 12 < a1.toInt → ((a1 = 9 → rz mProcessor_useValue 258 [(2, .int a2)] [.int (S.2 37 0), .ref 37] S (rz_v K)) ∧ (¬ a1 = 9 → ((a1 = 10 → rz mProcessor_useValue 258 [(2, .int a2)] [.int (S.2 37 1), .ref 37] S (rz_v K)) ∧ (¬ a1 = 10 → rz mProcessor_useValue 258 [(2, .int a2)] [.int (S.2 37 2), .ref 37] S (rz_v K)))))) ∧ (a1 = 1 → rz_ev mProcessor_marked [.ref 37, .int a2] S (rz_i (fun xq3 Sq3 => K (rz_uI Sq3 37 0 xq3)))) ∧ (a1 = 2 → rz_ev mProcessor_marked [.ref 37, .int a2] S (rz_i (fun xq4 Sq4 => K (rz_uI Sq4 37 1 xq4)))) ∧ (a1 = 3 → rz_ev mProcessor_marked [.ref 37, .int a2] S (rz_i (fun xq5 Sq5 => K (rz_uI Sq5 37 2 xq5)))) ∧ (a1 = 4 → rz_ev mProcessor_add [.ref 37, .int a2] S (rz_v (fun Sq6 => K Sq6))) ∧ (a1 = 5 → rz_ev mProcessor_subtract [.ref 37, .int a2] S (rz_v (fun Sq7 => K Sq7))) ∧ (a1 = 6 → rz_ev mProcessor_marked [.ref 37, .int ((S.2 37 0) &&& a2)] S (rz_i (fun xq8 Sq8 => K (rz_uI Sq8 37 0 xq8)))) ∧ (a1 = 7 → rz_ev mProcessor_marked [.ref 37, .int ((S.2 37 0) ||| a2)] S (rz_i (fun xq9 Sq9 => K (rz_uI Sq9 37 0 xq9)))) ∧ (a1 = 8 → rz_ev mProcessor_marked [.ref 37, .int ((S.2 37 0) ^^^ a2)] S (rz_i (fun xq10 Sq10 => K (rz_uI Sq10 37 0 xq10)))) ∧ (a1 = 9 → ((a1 = 9 → rz mProcessor_useValue 258 [(2, .int a2)] [.int (S.2 37 0), .ref 37] S (rz_v K)) ∧ (¬ a1 = 9 → ((a1 = 10 → rz mProcessor_useValue 258 [(2, .int a2)] [.int (S.2 37 1), .ref 37] S (rz_v K)) ∧ (¬ a1 = 10 → rz mProcessor_useValue 258 [(2, .int a2)] [.int (S.2 37 2), .ref 37] S (rz_v K)))))) ∧ (a1 = 10 → ((a1 = 9 → rz mProcessor_useValue 258 [(2, .int a2)] [.int (S.2 37 0), .ref 37] S (rz_v K)) ∧ (¬ a1 = 9 → ((a1 = 10 → rz mProcessor_useValue 258 [(2, .int a2)] [.int (S.2 37 1), .ref 37] S (rz_v K)) ∧ (¬ a1 = 10 → rz mProcessor_useValue 258 [(2, .int a2)] [.int (S.2 37 2), .ref 37] S (rz_v K)))))) ∧ (a1 = 11 → ((a1 = 9 → rz mProcessor_useValue 258 [(2, .int a2)] [.int (S.2 37 0), .ref 37] S (rz_v K)) ∧ (¬ a1 = 9 → ((a1 = 10 → rz mProcessor_useValue 258 [(2, .int a2)] [.int (S.2 37 1), .ref 37] S (rz_v K)) ∧ (¬ a1 = 10 → rz mProcessor_useValue 258 [(2, .int a2)] [.int (S.2 37 2), .ref 37] S (rz_v K)))))) ∧ (a1 = 12 → ((a2 &&& 128 = 0 → rz mProcessor_useValue 184 [(0, .ref 37), (2, .int a2)] [.int 0, .int 128, .ref 37] S (rz_v K)) ∧ (¬ a2 &&& 128 = 0 → rz mProcessor_useValue 184 [(0, .ref 37), (2, .int a2)] [.int 1, .int 128, .ref 37] S (rz_v K)))))) : rz mProcessor_useValue 0 [(0, .ref 37), (1, .int a1), (2, .int a2)] [] S (rz_v K) := by
  refine rz_pure (pc' := 1) d_Processor_useValue_0 rfl ?_
  refine rz_tsw (n := 12) (lo := 1) (tgt := 227) d_Processor_useValue_1 rfl rfl (fun b0 => ?_) (fun j hj hx => ?_)
  · skip
    refine rz_pure (pc' := 228) d_Processor_useValue_227 rfl ?_
    refine rz_pure (pc' := 229) d_Processor_useValue_228 rfl ?_
    refine rz_bipush (v := 9) d_Processor_useValue_229 (by decide) ?_
    refine rz_icmpne (tgt := 241) d_Processor_useValue_231 rfl (fun b1 => ?_) (fun b1 => ?_)
    · skip
      refine rz_pure (pc' := 242) d_Processor_useValue_241 rfl ?_
      refine rz_bipush (v := 10) d_Processor_useValue_242 (by decide) ?_
      refine rz_icmpne (tgt := 254) d_Processor_useValue_244 rfl (fun b2 => ?_) (fun b2 => ?_)
      · skip
        refine rz_pure (pc' := 255) d_Processor_useValue_254 rfl ?_
        refine rz_getiv (v := S.2 37 2) d_Processor_useValue_255 f_7_36 rfl rfl rfl ?_
        exact rz_pick (ks := [2]) (l := [(2, .int a2)]) rfl rfl (by decide) rfl (((w.1 b0).2 b1).2 b2)
      · skip
        refine rz_pure (pc' := 248) d_Processor_useValue_247 rfl ?_
        refine rz_getiv (v := S.2 37 1) d_Processor_useValue_248 f_7_33 rfl rfl rfl ?_
        refine rz_pure (pc' := 258) d_Processor_useValue_251 rfl ?_
        exact rz_pick (ks := [2]) (l := [(2, .int a2)]) rfl rfl (by decide) rfl (((w.1 b0).2 b1).1 b2)
    · skip
      refine rz_pure (pc' := 235) d_Processor_useValue_234 rfl ?_
      refine rz_getiv (v := S.2 37 0) d_Processor_useValue_235 f_7_30 rfl rfl rfl ?_
      refine rz_pure (pc' := 258) d_Processor_useValue_238 rfl ?_
      exact rz_pick (ks := [2]) (l := [(2, .int a2)]) rfl rfl (by decide) rfl ((w.1 b0).1 b1)
  · match j, hj with
    | 0, _ =>
      replace hx := hx.trans (show Int32.ofInt ((1 : Int) + ((0 : Nat) : Int)) = 1 from by decide)
      refine rz_tsj (tgt := 64) d_Processor_useValue_1 hx rfl ?_
      refine rz_pure (pc' := 65) d_Processor_useValue_64 rfl ?_
      refine rz_pure (pc' := 66) d_Processor_useValue_65 rfl ?_
      refine rz_pure (pc' := 67) d_Processor_useValue_66 rfl ?_
      refine rz_callVi (t := [.int a2]) d_Processor_useValue_67 w_7_108 rfl rfl rfl (w.2.1 hx) (fun xq3 Sq3 q3 => ?_)
      refine rz_puti d_Processor_useValue_70 f_7_30 rfl rfl rfl ?_
      refine rz_pure (pc' := 262) d_Processor_useValue_73 rfl ?_
      exact rz_vretv d_Processor_useValue_262 rfl q3
    | 1, _ =>
      replace hx := hx.trans (show Int32.ofInt ((1 : Int) + ((1 : Nat) : Int)) = 2 from by decide)
      refine rz_tsj (tgt := 76) d_Processor_useValue_1 hx rfl ?_
      refine rz_pure (pc' := 77) d_Processor_useValue_76 rfl ?_
      refine rz_pure (pc' := 78) d_Processor_useValue_77 rfl ?_
      refine rz_pure (pc' := 79) d_Processor_useValue_78 rfl ?_
      refine rz_callVi (t := [.int a2]) d_Processor_useValue_79 w_7_108 rfl rfl rfl (w.2.2.1 hx) (fun xq4 Sq4 q4 => ?_)
      refine rz_puti d_Processor_useValue_82 f_7_33 rfl rfl rfl ?_
      refine rz_pure (pc' := 262) d_Processor_useValue_85 rfl ?_
      exact rz_vretv d_Processor_useValue_262 rfl q4
    | 2, _ =>
      replace hx := hx.trans (show Int32.ofInt ((1 : Int) + ((2 : Nat) : Int)) = 3 from by decide)
      refine rz_tsj (tgt := 88) d_Processor_useValue_1 hx rfl ?_
      refine rz_pure (pc' := 89) d_Processor_useValue_88 rfl ?_
      refine rz_pure (pc' := 90) d_Processor_useValue_89 rfl ?_
      refine rz_pure (pc' := 91) d_Processor_useValue_90 rfl ?_
      refine rz_callVi (t := [.int a2]) d_Processor_useValue_91 w_7_108 rfl rfl rfl (w.2.2.2.1 hx) (fun xq5 Sq5 q5 => ?_)
      refine rz_puti d_Processor_useValue_94 f_7_36 rfl rfl rfl ?_
      refine rz_pure (pc' := 262) d_Processor_useValue_97 rfl ?_
      exact rz_vretv d_Processor_useValue_262 rfl q5
    | 3, _ =>
      replace hx := hx.trans (show Int32.ofInt ((1 : Int) + ((3 : Nat) : Int)) = 4 from by decide)
      refine rz_tsj (tgt := 151) d_Processor_useValue_1 hx rfl ?_
      refine rz_pure (pc' := 152) d_Processor_useValue_151 rfl ?_
      refine rz_pure (pc' := 153) d_Processor_useValue_152 rfl ?_
      refine rz_callVv (t := [.int a2]) d_Processor_useValue_153 w_7_111 rfl rfl rfl (w.2.2.2.2.1 hx) (fun Sq6 q6 => ?_)
      refine rz_pure (pc' := 262) d_Processor_useValue_156 rfl ?_
      exact rz_vretv d_Processor_useValue_262 rfl q6
    | 4, _ =>
      replace hx := hx.trans (show Int32.ofInt ((1 : Int) + ((4 : Nat) : Int)) = 5 from by decide)
      refine rz_tsj (tgt := 159) d_Processor_useValue_1 hx rfl ?_
      refine rz_pure (pc' := 160) d_Processor_useValue_159 rfl ?_
      refine rz_pure (pc' := 161) d_Processor_useValue_160 rfl ?_
      refine rz_callVv (t := [.int a2]) d_Processor_useValue_161 w_7_114 rfl rfl rfl (w.2.2.2.2.2.1 hx) (fun Sq7 q7 => ?_)
      refine rz_pure (pc' := 262) d_Processor_useValue_164 rfl ?_
      exact rz_vretv d_Processor_useValue_262 rfl q7
    | 5, _ =>
      replace hx := hx.trans (show Int32.ofInt ((1 : Int) + ((5 : Nat) : Int)) = 6 from by decide)
      refine rz_tsj (tgt := 100) d_Processor_useValue_1 hx rfl ?_
      refine rz_pure (pc' := 101) d_Processor_useValue_100 rfl ?_
      refine rz_pure (pc' := 102) d_Processor_useValue_101 rfl ?_
      refine rz_pure (pc' := 103) d_Processor_useValue_102 rfl ?_
      refine rz_getiv (v := S.2 37 0) d_Processor_useValue_103 f_7_30 rfl rfl rfl ?_
      refine rz_pure (pc' := 107) d_Processor_useValue_106 rfl ?_
      refine rz_iand d_Processor_useValue_107 ?_
      refine rz_callVi (t := [.int ((S.2 37 0) &&& a2)]) d_Processor_useValue_108 w_7_108 rfl rfl rfl (w.2.2.2.2.2.2.1 hx) (fun xq8 Sq8 q8 => ?_)
      refine rz_puti d_Processor_useValue_111 f_7_30 rfl rfl rfl ?_
      refine rz_pure (pc' := 262) d_Processor_useValue_114 rfl ?_
      exact rz_vretv d_Processor_useValue_262 rfl q8
    | 6, _ =>
      replace hx := hx.trans (show Int32.ofInt ((1 : Int) + ((6 : Nat) : Int)) = 7 from by decide)
      refine rz_tsj (tgt := 117) d_Processor_useValue_1 hx rfl ?_
      refine rz_pure (pc' := 118) d_Processor_useValue_117 rfl ?_
      refine rz_pure (pc' := 119) d_Processor_useValue_118 rfl ?_
      refine rz_pure (pc' := 120) d_Processor_useValue_119 rfl ?_
      refine rz_getiv (v := S.2 37 0) d_Processor_useValue_120 f_7_30 rfl rfl rfl ?_
      refine rz_pure (pc' := 124) d_Processor_useValue_123 rfl ?_
      refine rz_ior d_Processor_useValue_124 ?_
      refine rz_callVi (t := [.int ((S.2 37 0) ||| a2)]) d_Processor_useValue_125 w_7_108 rfl rfl rfl (w.2.2.2.2.2.2.2.1 hx) (fun xq9 Sq9 q9 => ?_)
      refine rz_puti d_Processor_useValue_128 f_7_30 rfl rfl rfl ?_
      refine rz_pure (pc' := 262) d_Processor_useValue_131 rfl ?_
      exact rz_vretv d_Processor_useValue_262 rfl q9
    | 7, _ =>
      replace hx := hx.trans (show Int32.ofInt ((1 : Int) + ((7 : Nat) : Int)) = 8 from by decide)
      refine rz_tsj (tgt := 134) d_Processor_useValue_1 hx rfl ?_
      refine rz_pure (pc' := 135) d_Processor_useValue_134 rfl ?_
      refine rz_pure (pc' := 136) d_Processor_useValue_135 rfl ?_
      refine rz_pure (pc' := 137) d_Processor_useValue_136 rfl ?_
      refine rz_getiv (v := S.2 37 0) d_Processor_useValue_137 f_7_30 rfl rfl rfl ?_
      refine rz_pure (pc' := 141) d_Processor_useValue_140 rfl ?_
      refine rz_ixor d_Processor_useValue_141 ?_
      refine rz_callVi (t := [.int ((S.2 37 0) ^^^ a2)]) d_Processor_useValue_142 w_7_108 rfl rfl rfl (w.2.2.2.2.2.2.2.2.1 hx) (fun xq10 Sq10 q10 => ?_)
      refine rz_puti d_Processor_useValue_145 f_7_30 rfl rfl rfl ?_
      refine rz_pure (pc' := 262) d_Processor_useValue_148 rfl ?_
      exact rz_vretv d_Processor_useValue_262 rfl q10
    | 8, _ =>
      replace hx := hx.trans (show Int32.ofInt ((1 : Int) + ((8 : Nat) : Int)) = 9 from by decide)
      refine rz_tsj (tgt := 227) d_Processor_useValue_1 hx rfl ?_
      refine rz_pure (pc' := 228) d_Processor_useValue_227 rfl ?_
      refine rz_pure (pc' := 229) d_Processor_useValue_228 rfl ?_
      refine rz_bipush (v := 9) d_Processor_useValue_229 (by decide) ?_
      refine rz_icmpne (tgt := 241) d_Processor_useValue_231 rfl (fun b11 => ?_) (fun b11 => ?_)
      · skip
        refine rz_pure (pc' := 242) d_Processor_useValue_241 rfl ?_
        refine rz_bipush (v := 10) d_Processor_useValue_242 (by decide) ?_
        refine rz_icmpne (tgt := 254) d_Processor_useValue_244 rfl (fun b12 => ?_) (fun b12 => ?_)
        · skip
          refine rz_pure (pc' := 255) d_Processor_useValue_254 rfl ?_
          refine rz_getiv (v := S.2 37 2) d_Processor_useValue_255 f_7_36 rfl rfl rfl ?_
          exact rz_pick (ks := [2]) (l := [(2, .int a2)]) rfl rfl (by decide) rfl (((w.2.2.2.2.2.2.2.2.2.1 hx).2 b11).2 b12)
        · skip
          refine rz_pure (pc' := 248) d_Processor_useValue_247 rfl ?_
          refine rz_getiv (v := S.2 37 1) d_Processor_useValue_248 f_7_33 rfl rfl rfl ?_
          refine rz_pure (pc' := 258) d_Processor_useValue_251 rfl ?_
          exact rz_pick (ks := [2]) (l := [(2, .int a2)]) rfl rfl (by decide) rfl (((w.2.2.2.2.2.2.2.2.2.1 hx).2 b11).1 b12)
      · skip
        refine rz_pure (pc' := 235) d_Processor_useValue_234 rfl ?_
        refine rz_getiv (v := S.2 37 0) d_Processor_useValue_235 f_7_30 rfl rfl rfl ?_
        refine rz_pure (pc' := 258) d_Processor_useValue_238 rfl ?_
        exact rz_pick (ks := [2]) (l := [(2, .int a2)]) rfl rfl (by decide) rfl ((w.2.2.2.2.2.2.2.2.2.1 hx).1 b11)
    | 9, _ =>
      replace hx := hx.trans (show Int32.ofInt ((1 : Int) + ((9 : Nat) : Int)) = 10 from by decide)
      refine rz_tsj (tgt := 227) d_Processor_useValue_1 hx rfl ?_
      refine rz_pure (pc' := 228) d_Processor_useValue_227 rfl ?_
      refine rz_pure (pc' := 229) d_Processor_useValue_228 rfl ?_
      refine rz_bipush (v := 9) d_Processor_useValue_229 (by decide) ?_
      refine rz_icmpne (tgt := 241) d_Processor_useValue_231 rfl (fun b13 => ?_) (fun b13 => ?_)
      · skip
        refine rz_pure (pc' := 242) d_Processor_useValue_241 rfl ?_
        refine rz_bipush (v := 10) d_Processor_useValue_242 (by decide) ?_
        refine rz_icmpne (tgt := 254) d_Processor_useValue_244 rfl (fun b14 => ?_) (fun b14 => ?_)
        · skip
          refine rz_pure (pc' := 255) d_Processor_useValue_254 rfl ?_
          refine rz_getiv (v := S.2 37 2) d_Processor_useValue_255 f_7_36 rfl rfl rfl ?_
          exact rz_pick (ks := [2]) (l := [(2, .int a2)]) rfl rfl (by decide) rfl (((w.2.2.2.2.2.2.2.2.2.2.1 hx).2 b13).2 b14)
        · skip
          refine rz_pure (pc' := 248) d_Processor_useValue_247 rfl ?_
          refine rz_getiv (v := S.2 37 1) d_Processor_useValue_248 f_7_33 rfl rfl rfl ?_
          refine rz_pure (pc' := 258) d_Processor_useValue_251 rfl ?_
          exact rz_pick (ks := [2]) (l := [(2, .int a2)]) rfl rfl (by decide) rfl (((w.2.2.2.2.2.2.2.2.2.2.1 hx).2 b13).1 b14)
      · skip
        refine rz_pure (pc' := 235) d_Processor_useValue_234 rfl ?_
        refine rz_getiv (v := S.2 37 0) d_Processor_useValue_235 f_7_30 rfl rfl rfl ?_
        refine rz_pure (pc' := 258) d_Processor_useValue_238 rfl ?_
        exact rz_pick (ks := [2]) (l := [(2, .int a2)]) rfl rfl (by decide) rfl ((w.2.2.2.2.2.2.2.2.2.2.1 hx).1 b13)
    | 10, _ =>
      replace hx := hx.trans (show Int32.ofInt ((1 : Int) + ((10 : Nat) : Int)) = 11 from by decide)
      refine rz_tsj (tgt := 227) d_Processor_useValue_1 hx rfl ?_
      refine rz_pure (pc' := 228) d_Processor_useValue_227 rfl ?_
      refine rz_pure (pc' := 229) d_Processor_useValue_228 rfl ?_
      refine rz_bipush (v := 9) d_Processor_useValue_229 (by decide) ?_
      refine rz_icmpne (tgt := 241) d_Processor_useValue_231 rfl (fun b15 => ?_) (fun b15 => ?_)
      · skip
        refine rz_pure (pc' := 242) d_Processor_useValue_241 rfl ?_
        refine rz_bipush (v := 10) d_Processor_useValue_242 (by decide) ?_
        refine rz_icmpne (tgt := 254) d_Processor_useValue_244 rfl (fun b16 => ?_) (fun b16 => ?_)
        · skip
          refine rz_pure (pc' := 255) d_Processor_useValue_254 rfl ?_
          refine rz_getiv (v := S.2 37 2) d_Processor_useValue_255 f_7_36 rfl rfl rfl ?_
          exact rz_pick (ks := [2]) (l := [(2, .int a2)]) rfl rfl (by decide) rfl (((w.2.2.2.2.2.2.2.2.2.2.2.1 hx).2 b15).2 b16)
        · skip
          refine rz_pure (pc' := 248) d_Processor_useValue_247 rfl ?_
          refine rz_getiv (v := S.2 37 1) d_Processor_useValue_248 f_7_33 rfl rfl rfl ?_
          refine rz_pure (pc' := 258) d_Processor_useValue_251 rfl ?_
          exact rz_pick (ks := [2]) (l := [(2, .int a2)]) rfl rfl (by decide) rfl (((w.2.2.2.2.2.2.2.2.2.2.2.1 hx).2 b15).1 b16)
      · skip
        refine rz_pure (pc' := 235) d_Processor_useValue_234 rfl ?_
        refine rz_getiv (v := S.2 37 0) d_Processor_useValue_235 f_7_30 rfl rfl rfl ?_
        refine rz_pure (pc' := 258) d_Processor_useValue_238 rfl ?_
        exact rz_pick (ks := [2]) (l := [(2, .int a2)]) rfl rfl (by decide) rfl ((w.2.2.2.2.2.2.2.2.2.2.2.1 hx).1 b15)
    | 11, _ =>
      replace hx := hx.trans (show Int32.ofInt ((1 : Int) + ((11 : Nat) : Int)) = 12 from by decide)
      refine rz_tsj (tgt := 167) d_Processor_useValue_1 hx rfl ?_
      refine rz_pure (pc' := 168) d_Processor_useValue_167 rfl ?_
      refine rz_sipush (v := 128) d_Processor_useValue_168 (by decide) ?_
      refine rz_pure (pc' := 172) d_Processor_useValue_171 rfl ?_
      refine rz_sipush (v := 128) d_Processor_useValue_172 (by decide) ?_
      refine rz_iand d_Processor_useValue_175 ?_
      refine rz_ifeq (tgt := 183) d_Processor_useValue_176 rfl (fun b17 => ?_) (fun b17 => ?_)
      · skip
        refine rz_iconst (v := 0) d_Processor_useValue_183 (by decide) ?_
        exact rz_pick (ks := [0, 2]) (l := [(0, .ref 37), (2, .int a2)]) rfl rfl (by decide) rfl ((w.2.2.2.2.2.2.2.2.2.2.2.2 hx).1 b17)
      · skip
        refine rz_iconst (v := 1) d_Processor_useValue_179 (by decide) ?_
        refine rz_pure (pc' := 184) d_Processor_useValue_180 rfl ?_
        exact rz_pick (ks := [0, 2]) (l := [(0, .ref 37), (2, .int a2)]) rfl rfl (by decide) rfl ((w.2.2.2.2.2.2.2.2.2.2.2.2 hx).2 b17)
    | j + 12, h => exact absurd h (by omega)
theorem p_Processor_useValue_258 {S : rz_S} {K : rz_S → Prop} {a2 : Int32} {s0 : Int32} (w : rz_ev mProcessor_compare [.ref 37, .int s0, .int a2] S (rz_v (fun Sq1 => K Sq1))) : rz mProcessor_useValue 258 [(2, .int a2)] [.int s0, .ref 37] S (rz_v K) := by
  refine rz_pure (pc' := 259) d_Processor_useValue_258 rfl ?_
  refine rz_callVv (t := [.int a2, .int s0]) d_Processor_useValue_259 w_7_120 rfl rfl rfl w (fun Sq1 q1 => ?_)
  exact rz_vretv d_Processor_useValue_262 rfl q1
theorem p_Processor_useValue_184 {S : rz_S} {K : rz_S → Prop} {a2 : Int32} {s0 : Int32} {s1 : Int32} (w : rz_ev mProcessor_flag [.ref 37, .int s1, .int s0] S (rz_v (fun Sq1 => ((a2 &&& 64 = 0 → rz mProcessor_useValue 202 [(0, .ref 37), (2, .int a2)] [.int 0, .int 64, .ref 37] Sq1 (rz_v K)) ∧ (¬ a2 &&& 64 = 0 → rz mProcessor_useValue 202 [(0, .ref 37), (2, .int a2)] [.int 1, .int 64, .ref 37] Sq1 (rz_v K)))))) : rz mProcessor_useValue 184 [(0, .ref 37), (2, .int a2)] [.int s0, .int s1, .ref 37] S (rz_v K) := by
  refine rz_callVv (t := [.int s0, .int s1]) d_Processor_useValue_184 w_7_117 rfl rfl rfl w (fun Sq1 q1 => ?_)
  refine rz_pure (pc' := 188) d_Processor_useValue_187 rfl ?_
  refine rz_bipush (v := 64) d_Processor_useValue_188 (by decide) ?_
  refine rz_pure (pc' := 191) d_Processor_useValue_190 rfl ?_
  refine rz_bipush (v := 64) d_Processor_useValue_191 (by decide) ?_
  refine rz_iand d_Processor_useValue_193 ?_
  refine rz_ifeq (tgt := 201) d_Processor_useValue_194 rfl (fun b2 => ?_) (fun b2 => ?_)
  · skip
    refine rz_iconst (v := 0) d_Processor_useValue_201 (by decide) ?_
    exact rz_pick (ks := [0, 2]) (l := [(0, .ref 37), (2, .int a2)]) rfl rfl (by decide) rfl (q1.1 b2)
  · skip
    refine rz_iconst (v := 1) d_Processor_useValue_197 (by decide) ?_
    refine rz_pure (pc' := 202) d_Processor_useValue_198 rfl ?_
    exact rz_pick (ks := [0, 2]) (l := [(0, .ref 37), (2, .int a2)]) rfl rfl (by decide) rfl (q1.2 b2)
theorem p_Processor_useValue_202 {S : rz_S} {K : rz_S → Prop} {a2 : Int32} {s0 : Int32} {s1 : Int32} (w : rz_ev mProcessor_flag [.ref 37, .int s1, .int s0] S (rz_v (fun Sq1 => ((a2 &&& (Sq1.2 37 0) = 0 → rz mProcessor_useValue 221 [] [.int 1, .int 2, .ref 37] Sq1 (rz_v K)) ∧ (¬ a2 &&& (Sq1.2 37 0) = 0 → rz mProcessor_useValue 221 [] [.int 0, .int 2, .ref 37] Sq1 (rz_v K)))))) : rz mProcessor_useValue 202 [(0, .ref 37), (2, .int a2)] [.int s0, .int s1, .ref 37] S (rz_v K) := by
  refine rz_callVv (t := [.int s0, .int s1]) d_Processor_useValue_202 w_7_117 rfl rfl rfl w (fun Sq1 q1 => ?_)
  refine rz_pure (pc' := 206) d_Processor_useValue_205 rfl ?_
  refine rz_iconst (v := 2) d_Processor_useValue_206 (by decide) ?_
  refine rz_pure (pc' := 208) d_Processor_useValue_207 rfl ?_
  refine rz_pure (pc' := 209) d_Processor_useValue_208 rfl ?_
  refine rz_getiv (v := Sq1.2 37 0) d_Processor_useValue_209 f_7_30 rfl rfl rfl ?_
  refine rz_iand d_Processor_useValue_212 ?_
  refine rz_ifne (tgt := 220) d_Processor_useValue_213 rfl (fun b2 => ?_) (fun b2 => ?_)
  · skip
    refine rz_iconst (v := 0) d_Processor_useValue_220 (by decide) ?_
    exact rz_pick (ks := []) (l := []) rfl rfl (by decide) rfl (q1.2 b2)
  · skip
    refine rz_iconst (v := 1) d_Processor_useValue_216 (by decide) ?_
    refine rz_pure (pc' := 221) d_Processor_useValue_217 rfl ?_
    exact rz_pick (ks := []) (l := []) rfl rfl (by decide) rfl (q1.1 b2)
theorem p_Processor_useValue_221 {S : rz_S} {K : rz_S → Prop} {s0 : Int32} {s1 : Int32} (w : rz_ev mProcessor_flag [.ref 37, .int s1, .int s0] S (rz_v (fun Sq1 => K Sq1))) : rz mProcessor_useValue 221 [] [.int s0, .int s1, .ref 37] S (rz_v K) := by
  refine rz_callVv (t := [.int s0, .int s1]) d_Processor_useValue_221 w_7_117 rfl rfl rfl w (fun Sq1 q1 => ?_)
  refine rz_pure (pc' := 262) d_Processor_useValue_224 rfl ?_
  exact rz_vretv d_Processor_useValue_262 rfl q1
theorem d_Processor_marked_0 : decode (rm_code mProcessor_marked) 0 = .ok (.iload_n 1, 1) := by decide +kernel
theorem d_Processor_marked_1 : decode (rm_code mProcessor_marked) 1 = .ok (.sipush (255), 3) := by decide +kernel
theorem d_Processor_marked_4 : decode (rm_code mProcessor_marked) 4 = .ok (.iand, 1) := by decide +kernel
theorem d_Processor_marked_5 : decode (rm_code mProcessor_marked) 5 = .ok (.ifCond .ne (7), 3) := by decide +kernel
theorem d_Processor_marked_8 : decode (rm_code mProcessor_marked) 8 = .ok (.iconst 2, 1) := by decide +kernel
theorem d_Processor_marked_9 : decode (rm_code mProcessor_marked) 9 = .ok (.goto (4), 3) := by decide +kernel
theorem d_Processor_marked_12 : decode (rm_code mProcessor_marked) 12 = .ok (.iconst 0, 1) := by decide +kernel
theorem d_Processor_marked_13 : decode (rm_code mProcessor_marked) 13 = .ok (.istore_n 2, 1) := by decide +kernel
theorem d_Processor_marked_14 : decode (rm_code mProcessor_marked) 14 = .ok (.aload_n 0, 1) := by decide +kernel
theorem d_Processor_marked_15 : decode (rm_code mProcessor_marked) 15 = .ok (.aload_n 0, 1) := by decide +kernel
theorem d_Processor_marked_16 : decode (rm_code mProcessor_marked) 16 = .ok (.getfield 27, 3) := by decide +kernel
theorem d_Processor_marked_19 : decode (rm_code mProcessor_marked) 19 = .ok (.sipush (-131), 3) := by decide +kernel
theorem d_Processor_marked_22 : decode (rm_code mProcessor_marked) 22 = .ok (.iand, 1) := by decide +kernel
theorem d_Processor_marked_23 : decode (rm_code mProcessor_marked) 23 = .ok (.iload_n 1, 1) := by decide +kernel
theorem d_Processor_marked_24 : decode (rm_code mProcessor_marked) 24 = .ok (.sipush (128), 3) := by decide +kernel
theorem d_Processor_marked_27 : decode (rm_code mProcessor_marked) 27 = .ok (.iand, 1) := by decide +kernel
theorem d_Processor_marked_28 : decode (rm_code mProcessor_marked) 28 = .ok (.ior, 1) := by decide +kernel
theorem d_Processor_marked_29 : decode (rm_code mProcessor_marked) 29 = .ok (.iload_n 2, 1) := by decide +kernel
theorem d_Processor_marked_30 : decode (rm_code mProcessor_marked) 30 = .ok (.ior, 1) := by decide +kernel
theorem d_Processor_marked_31 : decode (rm_code mProcessor_marked) 31 = .ok (.putfield 27, 3) := by decide +kernel
theorem d_Processor_marked_34 : decode (rm_code mProcessor_marked) 34 = .ok (.iload_n 1, 1) := by decide +kernel
theorem d_Processor_marked_35 : decode (rm_code mProcessor_marked) 35 = .ok (.sipush (255), 3) := by decide +kernel
theorem d_Processor_marked_38 : decode (rm_code mProcessor_marked) 38 = .ok (.iand, 1) := by decide +kernel
theorem d_Processor_marked_39 : decode (rm_code mProcessor_marked) 39 = .ok (.ireturn, 1) := by decide +kernel
theorem p_Processor_marked_0 {S : rz_S} {K : Int32 → rz_S → Prop} {a1 : Int32} (w : ((a1 &&& 255 = 0 → rz mProcessor_marked 13 [(0, .ref 37), (1, .int a1)] [.int 2] S (rz_i K)) ∧ (¬ a1 &&& 255 = 0 → rz mProcessor_marked 13 [(0, .ref 37), (1, .int a1)] [.int 0] S (rz_i K)))) : rz mProcessor_marked 0 [(0, .ref 37), (1, .int a1)] [] S (rz_i K) := by
  refine rz_pure (pc' := 1) d_Processor_marked_0 rfl ?_
  refine rz_sipush (v := 255) d_Processor_marked_1 (by decide) ?_
  refine rz_iand d_Processor_marked_4 ?_
  refine rz_ifne (tgt := 12) d_Processor_marked_5 rfl (fun b1 => ?_) (fun b1 => ?_)
  · skip
    refine rz_iconst (v := 0) d_Processor_marked_12 (by decide) ?_
    exact rz_pick (ks := [0, 1]) (l := [(0, .ref 37), (1, .int a1)]) rfl rfl (by decide) rfl (w.2 b1)
  · skip
    refine rz_iconst (v := 2) d_Processor_marked_8 (by decide) ?_
    refine rz_pure (pc' := 13) d_Processor_marked_9 rfl ?_
    exact rz_pick (ks := [0, 1]) (l := [(0, .ref 37), (1, .int a1)]) rfl rfl (by decide) rfl (w.1 b1)
theorem p_Processor_marked_13 {S : rz_S} {K : Int32 → rz_S → Prop} {a1 : Int32} {s0 : Int32} (w : K (a1 &&& 255) (rz_uI S 37 4 ((((S.2 37 4) &&& (-131)) ||| (a1 &&& 128)) ||| s0))) : rz mProcessor_marked 13 [(0, .ref 37), (1, .int a1)] [.int s0] S (rz_i K) := by
  refine rz_pure (pc' := 14) (l' := [(2, .int s0), (0, .ref 37), (1, .int a1)]) d_Processor_marked_13 rfl ?_
  refine rz_pure (pc' := 15) d_Processor_marked_14 rfl ?_
  refine rz_pure (pc' := 16) d_Processor_marked_15 rfl ?_
  refine rz_getiv (v := S.2 37 4) d_Processor_marked_16 f_7_27 rfl rfl rfl ?_
  refine rz_sipush (v := -131) d_Processor_marked_19 (by decide) ?_
  refine rz_iand d_Processor_marked_22 ?_
  refine rz_pure (pc' := 24) d_Processor_marked_23 rfl ?_
  refine rz_sipush (v := 128) d_Processor_marked_24 (by decide) ?_
  refine rz_iand d_Processor_marked_27 ?_
  refine rz_ior d_Processor_marked_28 ?_
  refine rz_pure (pc' := 30) d_Processor_marked_29 rfl ?_
  refine rz_ior d_Processor_marked_30 ?_
  refine rz_puti d_Processor_marked_31 f_7_27 rfl rfl rfl ?_
  refine rz_pure (pc' := 35) d_Processor_marked_34 rfl ?_
  refine rz_sipush (v := 255) d_Processor_marked_35 (by decide) ?_
  refine rz_iand d_Processor_marked_38 ?_
  exact rz_ireti d_Processor_marked_39 rfl rfl w
theorem d_Processor_add_0 : decode (rm_code mProcessor_add) 0 = .ok (.aload_n 0, 1) := by decide +kernel
theorem d_Processor_add_1 : decode (rm_code mProcessor_add) 1 = .ok (.bipush (8), 2) := by decide +kernel
theorem d_Processor_add_3 : decode (rm_code mProcessor_add) 3 = .ok (.invokevirtual 123, 3) := by decide +kernel
theorem d_Processor_add_6 : decode (rm_code mProcessor_add) 6 = .ok (.ifCond .ne (9), 3) := by decide +kernel
theorem d_Processor_add_9 : decode (rm_code mProcessor_add) 9 = .ok (.aload_n 0, 1) := by decide +kernel
theorem d_Processor_add_10 : decode (rm_code mProcessor_add) 10 = .ok (.iload_n 1, 1) := by decide +kernel
theorem d_Processor_add_11 : decode (rm_code mProcessor_add) 11 = .ok (.invokevirtual 127, 3) := by decide +kernel
theorem d_Processor_add_14 : decode (rm_code mProcessor_add) 14 = .ok (.return_, 1) := by decide +kernel
theorem d_Processor_add_15 : decode (rm_code mProcessor_add) 15 = .ok (.aload_n 0, 1) := by decide +kernel
theorem d_Processor_add_16 : decode (rm_code mProcessor_add) 16 = .ok (.getfield 30, 3) := by decide +kernel
theorem d_Processor_add_19 : decode (rm_code mProcessor_add) 19 = .ok (.bipush (15), 2) := by decide +kernel
theorem d_Processor_add_21 : decode (rm_code mProcessor_add) 21 = .ok (.iand, 1) := by decide +kernel
theorem d_Processor_add_22 : decode (rm_code mProcessor_add) 22 = .ok (.iload_n 1, 1) := by decide +kernel
theorem d_Processor_add_23 : decode (rm_code mProcessor_add) 23 = .ok (.bipush (15), 2) := by decide +kernel
theorem d_Processor_add_25 : decode (rm_code mProcessor_add) 25 = .ok (.iand, 1) := by decide +kernel
theorem d_Processor_add_26 : decode (rm_code mProcessor_add) 26 = .ok (.iadd, 1) := by decide +kernel
theorem d_Processor_add_27 : decode (rm_code mProcessor_add) 27 = .ok (.aload_n 0, 1) := by decide +kernel
theorem d_Processor_add_28 : decode (rm_code mProcessor_add) 28 = .ok (.getfield 27, 3) := by decide +kernel
theorem d_Processor_add_31 : decode (rm_code mProcessor_add) 31 = .ok (.iconst 1, 1) := by decide +kernel
theorem d_Processor_add_32 : decode (rm_code mProcessor_add) 32 = .ok (.iand, 1) := by decide +kernel
theorem d_Processor_add_33 : decode (rm_code mProcessor_add) 33 = .ok (.iadd, 1) := by decide +kernel
theorem d_Processor_add_34 : decode (rm_code mProcessor_add) 34 = .ok (.istore_n 2, 1) := by decide +kernel
theorem d_Processor_add_35 : decode (rm_code mProcessor_add) 35 = .ok (.iload_n 2, 1) := by decide +kernel
theorem d_Processor_add_36 : decode (rm_code mProcessor_add) 36 = .ok (.bipush (9), 2) := by decide +kernel
theorem d_Processor_add_38 : decode (rm_code mProcessor_add) 38 = .ok (.if_icmp .le (14), 3) := by decide +kernel
theorem d_Processor_add_41 : decode (rm_code mProcessor_add) 41 = .ok (.bipush (16), 2) := by decide +kernel
theorem d_Processor_add_43 : decode (rm_code mProcessor_add) 43 = .ok (.iload_n 2, 1) := by decide +kernel
theorem d_Processor_add_44 : decode (rm_code mProcessor_add) 44 = .ok (.bipush (6), 2) := by decide +kernel
theorem d_Processor_add_46 : decode (rm_code mProcessor_add) 46 = .ok (.iadd, 1) := by decide +kernel
theorem d_Processor_add_47 : decode (rm_code mProcessor_add) 47 = .ok (.bipush (15), 2) := by decide +kernel
theorem d_Processor_add_49 : decode (rm_code mProcessor_add) 49 = .ok (.iand, 1) := by decide +kernel
theorem d_Processor_add_50 : decode (rm_code mProcessor_add) 50 = .ok (.iadd, 1) := by decide +kernel
theorem d_Processor_add_51 : decode (rm_code mProcessor_add) 51 = .ok (.istore_n 2, 1) := by decide +kernel
theorem d_Processor_add_52 : decode (rm_code mProcessor_add) 52 = .ok (.aload_n 0, 1) := by decide +kernel
theorem d_Processor_add_53 : decode (rm_code mProcessor_add) 53 = .ok (.getfield 30, 3) := by decide +kernel
theorem d_Processor_add_56 : decode (rm_code mProcessor_add) 56 = .ok (.sipush (240), 3) := by decide +kernel
theorem d_Processor_add_59 : decode (rm_code mProcessor_add) 59 = .ok (.iand, 1) := by decide +kernel
theorem d_Processor_add_60 : decode (rm_code mProcessor_add) 60 = .ok (.iload_n 1, 1) := by decide +kernel
theorem d_Processor_add_61 : decode (rm_code mProcessor_add) 61 = .ok (.sipush (240), 3) := by decide +kernel
theorem d_Processor_add_64 : decode (rm_code mProcessor_add) 64 = .ok (.iand, 1) := by decide +kernel
theorem d_Processor_add_65 : decode (rm_code mProcessor_add) 65 = .ok (.iadd, 1) := by decide +kernel
theorem d_Processor_add_66 : decode (rm_code mProcessor_add) 66 = .ok (.iload_n 2, 1) := by decide +kernel
theorem d_Processor_add_67 : decode (rm_code mProcessor_add) 67 = .ok (.iadd, 1) := by decide +kernel
theorem d_Processor_add_68 : decode (rm_code mProcessor_add) 68 = .ok (.istore_n 3, 1) := by decide +kernel
theorem d_Processor_add_69 : decode (rm_code mProcessor_add) 69 = .ok (.aload_n 0, 1) := by decide +kernel
theorem d_Processor_add_70 : decode (rm_code mProcessor_add) 70 = .ok (.iconst 2, 1) := by decide +kernel
theorem d_Processor_add_71 : decode (rm_code mProcessor_add) 71 = .ok (.aload_n 0, 1) := by decide +kernel
theorem d_Processor_add_72 : decode (rm_code mProcessor_add) 72 = .ok (.getfield 30, 3) := by decide +kernel
theorem d_Processor_add_75 : decode (rm_code mProcessor_add) 75 = .ok (.iload_n 1, 1) := by decide +kernel
theorem d_Processor_add_76 : decode (rm_code mProcessor_add) 76 = .ok (.iadd, 1) := by decide +kernel
theorem d_Processor_add_77 : decode (rm_code mProcessor_add) 77 = .ok (.aload_n 0, 1) := by decide +kernel
theorem d_Processor_add_78 : decode (rm_code mProcessor_add) 78 = .ok (.getfield 27, 3) := by decide +kernel
theorem d_Processor_add_81 : decode (rm_code mProcessor_add) 81 = .ok (.iconst 1, 1) := by decide +kernel
theorem d_Processor_add_82 : decode (rm_code mProcessor_add) 82 = .ok (.iand, 1) := by decide +kernel
theorem d_Processor_add_83 : decode (rm_code mProcessor_add) 83 = .ok (.iadd, 1) := by decide +kernel
theorem d_Processor_add_84 : decode (rm_code mProcessor_add) 84 = .ok (.sipush (255), 3) := by decide +kernel
theorem d_Processor_add_87 : decode (rm_code mProcessor_add) 87 = .ok (.iand, 1) := by decide +kernel
theorem d_Processor_add_88 : decode (rm_code mProcessor_add) 88 = .ok (.ifCond .ne (7), 3) := by decide +kernel
theorem d_Processor_add_91 : decode (rm_code mProcessor_add) 91 = .ok (.iconst 1, 1) := by decide +kernel
theorem d_Processor_add_92 : decode (rm_code mProcessor_add) 92 = .ok (.goto (4), 3) := by decide +kernel
theorem d_Processor_add_95 : decode (rm_code mProcessor_add) 95 = .ok (.iconst 0, 1) := by decide +kernel
theorem d_Processor_add_96 : decode (rm_code mProcessor_add) 96 = .ok (.invokevirtual 117, 3) := by decide +kernel
theorem d_Processor_add_99 : decode (rm_code mProcessor_add) 99 = .ok (.aload_n 0, 1) := by decide +kernel
theorem d_Processor_add_100 : decode (rm_code mProcessor_add) 100 = .ok (.sipush (128), 3) := by decide +kernel
theorem d_Processor_add_103 : decode (rm_code mProcessor_add) 103 = .ok (.iload_n 3, 1) := by decide +kernel
theorem d_Processor_add_104 : decode (rm_code mProcessor_add) 104 = .ok (.sipush (128), 3) := by decide +kernel
theorem d_Processor_add_107 : decode (rm_code mProcessor_add) 107 = .ok (.iand, 1) := by decide +kernel
theorem d_Processor_add_108 : decode (rm_code mProcessor_add) 108 = .ok (.ifCond .eq (7), 3) := by decide +kernel
theorem d_Processor_add_111 : decode (rm_code mProcessor_add) 111 = .ok (.iconst 1, 1) := by decide +kernel
theorem d_Processor_add_112 : decode (rm_code mProcessor_add) 112 = .ok (.goto (4), 3) := by decide +kernel
theorem d_Processor_add_115 : decode (rm_code mProcessor_add) 115 = .ok (.iconst 0, 1) := by decide +kernel
theorem d_Processor_add_116 : decode (rm_code mProcessor_add) 116 = .ok (.invokevirtual 117, 3) := by decide +kernel
theorem d_Processor_add_119 : decode (rm_code mProcessor_add) 119 = .ok (.aload_n 0, 1) := by decide +kernel
theorem d_Processor_add_120 : decode (rm_code mProcessor_add) 120 = .ok (.bipush (64), 2) := by decide +kernel
theorem d_Processor_add_122 : decode (rm_code mProcessor_add) 122 = .ok (.aload_n 0, 1) := by decide +kernel
theorem d_Processor_add_123 : decode (rm_code mProcessor_add) 123 = .ok (.getfield 30, 3) := by decide +kernel
theorem d_Processor_add_126 : decode (rm_code mProcessor_add) 126 = .ok (.iload_n 1, 1) := by decide +kernel
theorem d_Processor_add_127 : decode (rm_code mProcessor_add) 127 = .ok (.ixor, 1) := by decide +kernel
theorem d_Processor_add_128 : decode (rm_code mProcessor_add) 128 = .ok (.iconst (-1), 1) := by decide +kernel
theorem d_Processor_add_129 : decode (rm_code mProcessor_add) 129 = .ok (.ixor, 1) := by decide +kernel
theorem d_Processor_add_130 : decode (rm_code mProcessor_add) 130 = .ok (.aload_n 0, 1) := by decide +kernel
theorem d_Processor_add_131 : decode (rm_code mProcessor_add) 131 = .ok (.getfield 30, 3) := by decide +kernel
theorem d_Processor_add_134 : decode (rm_code mProcessor_add) 134 = .ok (.iload_n 3, 1) := by decide +kernel
theorem d_Processor_add_135 : decode (rm_code mProcessor_add) 135 = .ok (.ixor, 1) := by decide +kernel
theorem d_Processor_add_136 : decode (rm_code mProcessor_add) 136 = .ok (.iand, 1) := by decide +kernel
theorem d_Processor_add_137 : decode (rm_code mProcessor_add) 137 = .ok (.sipush (128), 3) := by decide +kernel
theorem d_Processor_add_140 : decode (rm_code mProcessor_add) 140 = .ok (.iand, 1) := by decide +kernel
theorem d_Processor_add_141 : decode (rm_code mProcessor_add) 141 = .ok (.ifCond .eq (7), 3) := by decide +kernel
theorem d_Processor_add_144 : decode (rm_code mProcessor_add) 144 = .ok (.iconst 1, 1) := by decide +kernel
theorem d_Processor_add_145 : decode (rm_code mProcessor_add) 145 = .ok (.goto (4), 3) := by decide +kernel
theorem d_Processor_add_148 : decode (rm_code mProcessor_add) 148 = .ok (.iconst 0, 1) := by decide +kernel
theorem d_Processor_add_149 : decode (rm_code mProcessor_add) 149 = .ok (.invokevirtual 117, 3) := by decide +kernel
theorem d_Processor_add_152 : decode (rm_code mProcessor_add) 152 = .ok (.iload_n 3, 1) := by decide +kernel
theorem d_Processor_add_153 : decode (rm_code mProcessor_add) 153 = .ok (.sipush (159), 3) := by decide +kernel
theorem d_Processor_add_156 : decode (rm_code mProcessor_add) 156 = .ok (.if_icmp .le (6), 3) := by decide +kernel
theorem d_Processor_add_159 : decode (rm_code mProcessor_add) 159 = .ok (.iinc 3 (96), 3) := by decide +kernel
theorem d_Processor_add_162 : decode (rm_code mProcessor_add) 162 = .ok (.aload_n 0, 1) := by decide +kernel
theorem d_Processor_add_163 : decode (rm_code mProcessor_add) 163 = .ok (.iconst 1, 1) := by decide +kernel
theorem d_Processor_add_164 : decode (rm_code mProcessor_add) 164 = .ok (.iload_n 3, 1) := by decide +kernel
theorem d_Processor_add_165 : decode (rm_code mProcessor_add) 165 = .ok (.sipush (255), 3) := by decide +kernel
theorem d_Processor_add_168 : decode (rm_code mProcessor_add) 168 = .ok (.if_icmp .le (7), 3) := by decide +kernel
theorem d_Processor_add_171 : decode (rm_code mProcessor_add) 171 = .ok (.iconst 1, 1) := by decide +kernel
theorem d_Processor_add_172 : decode (rm_code mProcessor_add) 172 = .ok (.goto (4), 3) := by decide +kernel
theorem d_Processor_add_175 : decode (rm_code mProcessor_add) 175 = .ok (.iconst 0, 1) := by decide +kernel
theorem d_Processor_add_176 : decode (rm_code mProcessor_add) 176 = .ok (.invokevirtual 117, 3) := by decide +kernel
theorem d_Processor_add_179 : decode (rm_code mProcessor_add) 179 = .ok (.aload_n 0, 1) := by decide +kernel
theorem d_Processor_add_180 : decode (rm_code mProcessor_add) 180 = .ok (.iload_n 3, 1) := by decide +kernel
theorem d_Processor_add_181 : decode (rm_code mProcessor_add) 181 = .ok (.sipush (255), 3) := by decide +kernel
theorem d_Processor_add_184 : decode (rm_code mProcessor_add) 184 = .ok (.iand, 1) := by decide +kernel
theorem d_Processor_add_185 : decode (rm_code mProcessor_add) 185 = .ok (.putfield 30, 3) := by decide +kernel
theorem d_Processor_add_188 : decode (rm_code mProcessor_add) 188 = .ok (.return_, 1) := by decide +kernel
theorem p_Processor_add_0 {S : rz_S} {K : rz_S → Prop} {a1 : Int32} (w : rz_ev mProcessor_has [.ref 37, .int 8] S (rz_i (fun xq1 Sq1 => ((xq1 = 0 → rz_ev mProcessor_addBinary [.ref 37, .int a1] Sq1 (rz_v (fun Sq4 => K Sq4))) ∧ (¬ xq1 = 0 → (((((Sq1.2 37 0) &&& 15) + (a1 &&& 15)) + ((Sq1.2 37 4) &&& 1) ≤ 9 → rz mProcessor_add 52 [(0, .ref 37), (1, .int a1), (2, .int ((((Sq1.2 37 0) &&& 15) + (a1 &&& 15)) + ((Sq1.2 37 4) &&& 1)))] [] Sq1 (rz_v K)) ∧ (¬ (((Sq1.2 37 0) &&& 15) + (a1 &&& 15)) + ((Sq1.2 37 4) &&& 1) ≤ 9 → rz mProcessor_add 52 [(0, .ref 37), (1, .int a1), (2, .int (16 + ((((((Sq1.2 37 0) &&& 15) + (a1 &&& 15)) + ((Sq1.2 37 4) &&& 1)) + 6) &&& 15)))] [] Sq1 (rz_v K)))))))) : rz mProcessor_add 0 [(0, .ref 37), (1, .int a1)] [] S (rz_v K) := by
  refine rz_pure (pc' := 1) d_Processor_add_0 rfl ?_
  refine rz_bipush (v := 8) d_Processor_add_1 (by decide) ?_
  refine rz_callVi (t := [.int 8]) d_Processor_add_3 w_7_123 rfl rfl rfl w (fun xq1 Sq1 q1 => ?_)
  refine rz_ifne (tgt := 15) d_Processor_add_6 rfl (fun b2 => ?_) (fun b2 => ?_)
  · skip
    refine rz_pure (pc' := 16) d_Processor_add_15 rfl ?_
    refine rz_getiv (v := Sq1.2 37 0) d_Processor_add_16 f_7_30 rfl rfl rfl ?_
    refine rz_bipush (v := 15) d_Processor_add_19 (by decide) ?_
    refine rz_iand d_Processor_add_21 ?_
    refine rz_pure (pc' := 23) d_Processor_add_22 rfl ?_
    refine rz_bipush (v := 15) d_Processor_add_23 (by decide) ?_
    refine rz_iand d_Processor_add_25 ?_
    refine rz_iadd d_Processor_add_26 ?_
    refine rz_pure (pc' := 28) d_Processor_add_27 rfl ?_
    refine rz_getiv (v := Sq1.2 37 4) d_Processor_add_28 f_7_27 rfl rfl rfl ?_
    refine rz_iconst (v := 1) d_Processor_add_31 (by decide) ?_
    refine rz_iand d_Processor_add_32 ?_
    refine rz_iadd d_Processor_add_33 ?_
    refine rz_pure (pc' := 35) (l' := [(2, .int ((((Sq1.2 37 0) &&& 15) + (a1 &&& 15)) + ((Sq1.2 37 4) &&& 1))), (0, .ref 37), (1, .int a1)]) d_Processor_add_34 rfl ?_
    refine rz_pure (pc' := 36) d_Processor_add_35 rfl ?_
    refine rz_bipush (v := 9) d_Processor_add_36 (by decide) ?_
    refine rz_icmple (tgt := 52) d_Processor_add_38 rfl (fun b3 => ?_) (fun b3 => ?_)
    · skip
      exact rz_pick (ks := [0, 1, 2]) (l := [(0, .ref 37), (1, .int a1), (2, .int ((((Sq1.2 37 0) &&& 15) + (a1 &&& 15)) + ((Sq1.2 37 4) &&& 1)))]) rfl rfl (by decide) rfl ((q1.2 b2).1 b3)
    · skip
      refine rz_bipush (v := 16) d_Processor_add_41 (by decide) ?_
      refine rz_pure (pc' := 44) d_Processor_add_43 rfl ?_
      refine rz_bipush (v := 6) d_Processor_add_44 (by decide) ?_
      refine rz_iadd d_Processor_add_46 ?_
      refine rz_bipush (v := 15) d_Processor_add_47 (by decide) ?_
      refine rz_iand d_Processor_add_49 ?_
      refine rz_iadd d_Processor_add_50 ?_
      refine rz_pure (pc' := 52) (l' := [(2, .int (16 + ((((((Sq1.2 37 0) &&& 15) + (a1 &&& 15)) + ((Sq1.2 37 4) &&& 1)) + 6) &&& 15))), (0, .ref 37), (1, .int a1)]) d_Processor_add_51 rfl ?_
      exact rz_pick (ks := [0, 1, 2]) (l := [(0, .ref 37), (1, .int a1), (2, .int (16 + ((((((Sq1.2 37 0) &&& 15) + (a1 &&& 15)) + ((Sq1.2 37 4) &&& 1)) + 6) &&& 15)))]) rfl rfl (by decide) rfl ((q1.2 b2).2 b3)
  · skip
    refine rz_pure (pc' := 10) d_Processor_add_9 rfl ?_
    refine rz_pure (pc' := 11) d_Processor_add_10 rfl ?_
    refine rz_callVv (t := [.int a1]) d_Processor_add_11 w_7_127 rfl rfl rfl (q1.1 b2) (fun Sq4 q4 => ?_)
    exact rz_vretv d_Processor_add_14 rfl q4
theorem p_Processor_add_52 {S : rz_S} {K : rz_S → Prop} {a1 : Int32} {a2 : Int32} (w : (((((S.2 37 0) + a1) + ((S.2 37 4) &&& 1)) &&& 255 = 0 → rz mProcessor_add 96 [(0, .ref 37), (1, .int a1), (3, .int ((((S.2 37 0) &&& 240) + (a1 &&& 240)) + a2))] [.int 1, .int 2, .ref 37] S (rz_v K)) ∧ (¬ (((S.2 37 0) + a1) + ((S.2 37 4) &&& 1)) &&& 255 = 0 → rz mProcessor_add 96 [(0, .ref 37), (1, .int a1), (3, .int ((((S.2 37 0) &&& 240) + (a1 &&& 240)) + a2))] [.int 0, .int 2, .ref 37] S (rz_v K)))) : rz mProcessor_add 52 [(0, .ref 37), (1, .int a1), (2, .int a2)] [] S (rz_v K) := by
  refine rz_pure (pc' := 53) d_Processor_add_52 rfl ?_
  refine rz_getiv (v := S.2 37 0) d_Processor_add_53 f_7_30 rfl rfl rfl ?_
  refine rz_sipush (v := 240) d_Processor_add_56 (by decide) ?_
  refine rz_iand d_Processor_add_59 ?_
  refine rz_pure (pc' := 61) d_Processor_add_60 rfl ?_
  refine rz_sipush (v := 240) d_Processor_add_61 (by decide) ?_
  refine rz_iand d_Processor_add_64 ?_
  refine rz_iadd d_Processor_add_65 ?_
  refine rz_pure (pc' := 67) d_Processor_add_66 rfl ?_
  refine rz_iadd d_Processor_add_67 ?_
  refine rz_pure (pc' := 69) (l' := [(3, .int ((((S.2 37 0) &&& 240) + (a1 &&& 240)) + a2)), (0, .ref 37), (1, .int a1), (2, .int a2)]) d_Processor_add_68 rfl ?_
  refine rz_pure (pc' := 70) d_Processor_add_69 rfl ?_
  refine rz_iconst (v := 2) d_Processor_add_70 (by decide) ?_
  refine rz_pure (pc' := 72) d_Processor_add_71 rfl ?_
  refine rz_getiv (v := S.2 37 0) d_Processor_add_72 f_7_30 rfl rfl rfl ?_
  refine rz_pure (pc' := 76) d_Processor_add_75 rfl ?_
  refine rz_iadd d_Processor_add_76 ?_
  refine rz_pure (pc' := 78) d_Processor_add_77 rfl ?_
  refine rz_getiv (v := S.2 37 4) d_Processor_add_78 f_7_27 rfl rfl rfl ?_
  refine rz_iconst (v := 1) d_Processor_add_81 (by decide) ?_
  refine rz_iand d_Processor_add_82 ?_
  refine rz_iadd d_Processor_add_83 ?_
  refine rz_sipush (v := 255) d_Processor_add_84 (by decide) ?_
  refine rz_iand d_Processor_add_87 ?_
  refine rz_ifne (tgt := 95) d_Processor_add_88 rfl (fun b1 => ?_) (fun b1 => ?_)
  · skip
    refine rz_iconst (v := 0) d_Processor_add_95 (by decide) ?_
    exact rz_pick (ks := [0, 1, 3]) (l := [(0, .ref 37), (1, .int a1), (3, .int ((((S.2 37 0) &&& 240) + (a1 &&& 240)) + a2))]) rfl rfl (by decide) rfl (w.2 b1)
  · skip
    refine rz_iconst (v := 1) d_Processor_add_91 (by decide) ?_
    refine rz_pure (pc' := 96) d_Processor_add_92 rfl ?_
    exact rz_pick (ks := [0, 1, 3]) (l := [(0, .ref 37), (1, .int a1), (3, .int ((((S.2 37 0) &&& 240) + (a1 &&& 240)) + a2))]) rfl rfl (by decide) rfl (w.1 b1)
theorem p_Processor_add_96 {S : rz_S} {K : rz_S → Prop} {a1 : Int32} {a3 : Int32} {s0 : Int32} {s1 : Int32} (w : rz_ev mProcessor_flag [.ref 37, .int s1, .int s0] S (rz_v (fun Sq1 => ((a3 &&& 128 = 0 → rz mProcessor_add 116 [(0, .ref 37), (1, .int a1), (3, .int a3)] [.int 0, .int 128, .ref 37] Sq1 (rz_v K)) ∧ (¬ a3 &&& 128 = 0 → rz mProcessor_add 116 [(0, .ref 37), (1, .int a1), (3, .int a3)] [.int 1, .int 128, .ref 37] Sq1 (rz_v K)))))) : rz mProcessor_add 96 [(0, .ref 37), (1, .int a1), (3, .int a3)] [.int s0, .int s1, .ref 37] S (rz_v K) := by
  refine rz_callVv (t := [.int s0, .int s1]) d_Processor_add_96 w_7_117 rfl rfl rfl w (fun Sq1 q1 => ?_)
  refine rz_pure (pc' := 100) d_Processor_add_99 rfl ?_
  refine rz_sipush (v := 128) d_Processor_add_100 (by decide) ?_
  refine rz_pure (pc' := 104) d_Processor_add_103 rfl ?_
  refine rz_sipush (v := 128) d_Processor_add_104 (by decide) ?_
  refine rz_iand d_Processor_add_107 ?_
  refine rz_ifeq (tgt := 115) d_Processor_add_108 rfl (fun b2 => ?_) (fun b2 => ?_)
  · skip
    refine rz_iconst (v := 0) d_Processor_add_115 (by decide) ?_
    exact rz_pick (ks := [0, 1, 3]) (l := [(0, .ref 37), (1, .int a1), (3, .int a3)]) rfl rfl (by decide) rfl (q1.1 b2)
  · skip
    refine rz_iconst (v := 1) d_Processor_add_111 (by decide) ?_
    refine rz_pure (pc' := 116) d_Processor_add_112 rfl ?_
    exact rz_pick (ks := [0, 1, 3]) (l := [(0, .ref 37), (1, .int a1), (3, .int a3)]) rfl rfl (by decide) rfl (q1.2 b2)
theorem p_Processor_add_116 {S : rz_S} {K : rz_S → Prop} {a1 : Int32} {a3 : Int32} {s0 : Int32} {s1 : Int32} (w : rz_ev mProcessor_flag [.ref 37, .int s1, .int s0] S (rz_v (fun Sq1 => ((((((Sq1.2 37 0) ^^^ a1) ^^^ (-1)) &&& ((Sq1.2 37 0) ^^^ a3)) &&& 128 = 0 → rz mProcessor_add 149 [(0, .ref 37), (3, .int a3)] [.int 0, .int 64, .ref 37] Sq1 (rz_v K)) ∧ (¬ ((((Sq1.2 37 0) ^^^ a1) ^^^ (-1)) &&& ((Sq1.2 37 0) ^^^ a3)) &&& 128 = 0 → rz mProcessor_add 149 [(0, .ref 37), (3, .int a3)] [.int 1, .int 64, .ref 37] Sq1 (rz_v K)))))) : rz mProcessor_add 116 [(0, .ref 37), (1, .int a1), (3, .int a3)] [.int s0, .int s1, .ref 37] S (rz_v K) := by
  refine rz_callVv (t := [.int s0, .int s1]) d_Processor_add_116 w_7_117 rfl rfl rfl w (fun Sq1 q1 => ?_)
  refine rz_pure (pc' := 120) d_Processor_add_119 rfl ?_
  refine rz_bipush (v := 64) d_Processor_add_120 (by decide) ?_
  refine rz_pure (pc' := 123) d_Processor_add_122 rfl ?_
  refine rz_getiv (v := Sq1.2 37 0) d_Processor_add_123 f_7_30 rfl rfl rfl ?_
  refine rz_pure (pc' := 127) d_Processor_add_126 rfl ?_
  refine rz_ixor d_Processor_add_127 ?_
  refine rz_iconst (v := -1) d_Processor_add_128 (by decide) ?_
  refine rz_ixor d_Processor_add_129 ?_
  refine rz_pure (pc' := 131) d_Processor_add_130 rfl ?_
  refine rz_getiv (v := Sq1.2 37 0) d_Processor_add_131 f_7_30 rfl rfl rfl ?_
  refine rz_pure (pc' := 135) d_Processor_add_134 rfl ?_
  refine rz_ixor d_Processor_add_135 ?_
  refine rz_iand d_Processor_add_136 ?_
  refine rz_sipush (v := 128) d_Processor_add_137 (by decide) ?_
  refine rz_iand d_Processor_add_140 ?_
  refine rz_ifeq (tgt := 148) d_Processor_add_141 rfl (fun b2 => ?_) (fun b2 => ?_)
  · skip
    refine rz_iconst (v := 0) d_Processor_add_148 (by decide) ?_
    exact rz_pick (ks := [0, 3]) (l := [(0, .ref 37), (3, .int a3)]) rfl rfl (by decide) rfl (q1.1 b2)
  · skip
    refine rz_iconst (v := 1) d_Processor_add_144 (by decide) ?_
    refine rz_pure (pc' := 149) d_Processor_add_145 rfl ?_
    exact rz_pick (ks := [0, 3]) (l := [(0, .ref 37), (3, .int a3)]) rfl rfl (by decide) rfl (q1.2 b2)
theorem p_Processor_add_149 {S : rz_S} {K : rz_S → Prop} {a3 : Int32} {s0 : Int32} {s1 : Int32} (w : rz_ev mProcessor_flag [.ref 37, .int s1, .int s0] S (rz_v (fun Sq1 => ((a3 ≤ 159 → rz mProcessor_add 162 [(0, .ref 37), (3, .int a3)] [] Sq1 (rz_v K)) ∧ (¬ a3 ≤ 159 → rz mProcessor_add 162 [(0, .ref 37), (3, .int (a3 + 96))] [] Sq1 (rz_v K)))))) : rz mProcessor_add 149 [(0, .ref 37), (3, .int a3)] [.int s0, .int s1, .ref 37] S (rz_v K) := by
  refine rz_callVv (t := [.int s0, .int s1]) d_Processor_add_149 w_7_117 rfl rfl rfl w (fun Sq1 q1 => ?_)
  refine rz_pure (pc' := 153) d_Processor_add_152 rfl ?_
  refine rz_sipush (v := 159) d_Processor_add_153 (by decide) ?_
  refine rz_icmple (tgt := 162) d_Processor_add_156 rfl (fun b2 => ?_) (fun b2 => ?_)
  · skip
    exact rz_pick (ks := [0, 3]) (l := [(0, .ref 37), (3, .int a3)]) rfl rfl (by decide) rfl (q1.1 b2)
  · skip
    refine rz_pure (pc' := 162) (l' := [(3, .int (a3 + 96)), (0, .ref 37)]) d_Processor_add_159 rfl ?_
    exact rz_pick (ks := [0, 3]) (l := [(0, .ref 37), (3, .int (a3 + 96))]) rfl rfl (by decide) rfl (q1.2 b2)
theorem p_Processor_add_162 {S : rz_S} {K : rz_S → Prop} {a3 : Int32} (w : ((a3 ≤ 255 → rz mProcessor_add 176 [(0, .ref 37), (3, .int a3)] [.int 0, .int 1, .ref 37] S (rz_v K)) ∧ (¬ a3 ≤ 255 → rz mProcessor_add 176 [(0, .ref 37), (3, .int a3)] [.int 1, .int 1, .ref 37] S (rz_v K)))) : rz mProcessor_add 162 [(0, .ref 37), (3, .int a3)] [] S (rz_v K) := by
  refine rz_pure (pc' := 163) d_Processor_add_162 rfl ?_
  refine rz_iconst (v := 1) d_Processor_add_163 (by decide) ?_
  refine rz_pure (pc' := 165) d_Processor_add_164 rfl ?_
  refine rz_sipush (v := 255) d_Processor_add_165 (by decide) ?_
  refine rz_icmple (tgt := 175) d_Processor_add_168 rfl (fun b1 => ?_) (fun b1 => ?_)
  · skip
    refine rz_iconst (v := 0) d_Processor_add_175 (by decide) ?_
    exact rz_pick (ks := [0, 3]) (l := [(0, .ref 37), (3, .int a3)]) rfl rfl (by decide) rfl (w.1 b1)
  · skip
    refine rz_iconst (v := 1) d_Processor_add_171 (by decide) ?_
    refine rz_pure (pc' := 176) d_Processor_add_172 rfl ?_
    exact rz_pick (ks := [0, 3]) (l := [(0, .ref 37), (3, .int a3)]) rfl rfl (by decide) rfl (w.2 b1)
theorem p_Processor_add_176 {S : rz_S} {K : rz_S → Prop} {a3 : Int32} {s0 : Int32} {s1 : Int32} (w : rz_ev mProcessor_flag [.ref 37, .int s1, .int s0] S (rz_v (fun Sq1 => K (rz_uI Sq1 37 0 (a3 &&& 255))))) : rz mProcessor_add 176 [(0, .ref 37), (3, .int a3)] [.int s0, .int s1, .ref 37] S (rz_v K) := by
  refine rz_callVv (t := [.int s0, .int s1]) d_Processor_add_176 w_7_117 rfl rfl rfl w (fun Sq1 q1 => ?_)
  refine rz_pure (pc' := 180) d_Processor_add_179 rfl ?_
  refine rz_pure (pc' := 181) d_Processor_add_180 rfl ?_
  refine rz_sipush (v := 255) d_Processor_add_181 (by decide) ?_
  refine rz_iand d_Processor_add_184 ?_
  refine rz_puti d_Processor_add_185 f_7_30 rfl rfl rfl ?_
  exact rz_vretv d_Processor_add_188 rfl q1
theorem d_Processor_has_0 : decode (rm_code mProcessor_has) 0 = .ok (.aload_n 0, 1) := by decide +kernel
theorem d_Processor_has_1 : decode (rm_code mProcessor_has) 1 = .ok (.getfield 27, 3) := by decide +kernel
theorem d_Processor_has_4 : decode (rm_code mProcessor_has) 4 = .ok (.iload_n 1, 1) := by decide +kernel
theorem d_Processor_has_5 : decode (rm_code mProcessor_has) 5 = .ok (.iand, 1) := by decide +kernel
theorem d_Processor_has_6 : decode (rm_code mProcessor_has) 6 = .ok (.ifCond .eq (7), 3) := by decide +kernel
theorem d_Processor_has_9 : decode (rm_code mProcessor_has) 9 = .ok (.iconst 1, 1) := by decide +kernel
theorem d_Processor_has_10 : decode (rm_code mProcessor_has) 10 = .ok (.goto (4), 3) := by decide +kernel
theorem d_Processor_has_13 : decode (rm_code mProcessor_has) 13 = .ok (.iconst 0, 1) := by decide +kernel
theorem d_Processor_has_14 : decode (rm_code mProcessor_has) 14 = .ok (.ireturn, 1) := by decide +kernel
theorem p_Processor_has_0 {S : rz_S} {K : Int32 → rz_S → Prop} {a1 : Int32} (w : (((S.2 37 4) &&& a1 = 0 → K 0 S) ∧ (¬ (S.2 37 4) &&& a1 = 0 → K 1 S))) : rz mProcessor_has 0 [(0, .ref 37), (1, .int a1)] [] S (rz_i K) := by
  refine rz_pure (pc' := 1) d_Processor_has_0 rfl ?_
  refine rz_getiv (v := S.2 37 4) d_Processor_has_1 f_7_27 rfl rfl rfl ?_
  refine rz_pure (pc' := 5) d_Processor_has_4 rfl ?_
  refine rz_iand d_Processor_has_5 ?_
  refine rz_ifeq (tgt := 13) d_Processor_has_6 rfl (fun b1 => ?_) (fun b1 => ?_)
  · skip
    refine rz_iconst (v := 0) d_Processor_has_13 (by decide) ?_
    exact rz_ireti d_Processor_has_14 rfl (by decide) (w.1 b1)
  · skip
    refine rz_iconst (v := 1) d_Processor_has_9 (by decide) ?_
    refine rz_pure (pc' := 14) d_Processor_has_10 rfl ?_
    exact rz_ireti d_Processor_has_14 rfl (by decide) (w.2 b1)
theorem d_Processor_addBinary_0 : decode (rm_code mProcessor_addBinary) 0 = .ok (.aload_n 0, 1) := by decide +kernel
theorem d_Processor_addBinary_1 : decode (rm_code mProcessor_addBinary) 1 = .ok (.getfield 30, 3) := by decide +kernel
theorem d_Processor_addBinary_4 : decode (rm_code mProcessor_addBinary) 4 = .ok (.iload_n 1, 1) := by decide +kernel
theorem d_Processor_addBinary_5 : decode (rm_code mProcessor_addBinary) 5 = .ok (.iadd, 1) := by decide +kernel
theorem d_Processor_addBinary_6 : decode (rm_code mProcessor_addBinary) 6 = .ok (.aload_n 0, 1) := by decide +kernel
theorem d_Processor_addBinary_7 : decode (rm_code mProcessor_addBinary) 7 = .ok (.getfield 27, 3) := by decide +kernel
theorem d_Processor_addBinary_10 : decode (rm_code mProcessor_addBinary) 10 = .ok (.iconst 1, 1) := by decide +kernel
theorem d_Processor_addBinary_11 : decode (rm_code mProcessor_addBinary) 11 = .ok (.iand, 1) := by decide +kernel
theorem d_Processor_addBinary_12 : decode (rm_code mProcessor_addBinary) 12 = .ok (.iadd, 1) := by decide +kernel
theorem d_Processor_addBinary_13 : decode (rm_code mProcessor_addBinary) 13 = .ok (.istore_n 2, 1) := by decide +kernel
theorem d_Processor_addBinary_14 : decode (rm_code mProcessor_addBinary) 14 = .ok (.aload_n 0, 1) := by decide +kernel
theorem d_Processor_addBinary_15 : decode (rm_code mProcessor_addBinary) 15 = .ok (.getfield 30, 3) := by decide +kernel
theorem d_Processor_addBinary_18 : decode (rm_code mProcessor_addBinary) 18 = .ok (.iload_n 1, 1) := by decide +kernel
theorem d_Processor_addBinary_19 : decode (rm_code mProcessor_addBinary) 19 = .ok (.ixor, 1) := by decide +kernel
theorem d_Processor_addBinary_20 : decode (rm_code mProcessor_addBinary) 20 = .ok (.iconst (-1), 1) := by decide +kernel
theorem d_Processor_addBinary_21 : decode (rm_code mProcessor_addBinary) 21 = .ok (.ixor, 1) := by decide +kernel
theorem d_Processor_addBinary_22 : decode (rm_code mProcessor_addBinary) 22 = .ok (.aload_n 0, 1) := by decide +kernel
theorem d_Processor_addBinary_23 : decode (rm_code mProcessor_addBinary) 23 = .ok (.getfield 30, 3) := by decide +kernel
theorem d_Processor_addBinary_26 : decode (rm_code mProcessor_addBinary) 26 = .ok (.iload_n 2, 1) := by decide +kernel
theorem d_Processor_addBinary_27 : decode (rm_code mProcessor_addBinary) 27 = .ok (.ixor, 1) := by decide +kernel
theorem d_Processor_addBinary_28 : decode (rm_code mProcessor_addBinary) 28 = .ok (.iand, 1) := by decide +kernel
theorem d_Processor_addBinary_29 : decode (rm_code mProcessor_addBinary) 29 = .ok (.sipush (128), 3) := by decide +kernel
theorem d_Processor_addBinary_32 : decode (rm_code mProcessor_addBinary) 32 = .ok (.iand, 1) := by decide +kernel
theorem d_Processor_addBinary_33 : decode (rm_code mProcessor_addBinary) 33 = .ok (.ifCond .eq (8), 3) := by decide +kernel
theorem d_Processor_addBinary_36 : decode (rm_code mProcessor_addBinary) 36 = .ok (.bipush (64), 2) := by decide +kernel
theorem d_Processor_addBinary_38 : decode (rm_code mProcessor_addBinary) 38 = .ok (.goto (4), 3) := by decide +kernel
theorem d_Processor_addBinary_41 : decode (rm_code mProcessor_addBinary) 41 = .ok (.iconst 0, 1) := by decide +kernel
theorem d_Processor_addBinary_42 : decode (rm_code mProcessor_addBinary) 42 = .ok (.istore_n 3, 1) := by decide +kernel
theorem d_Processor_addBinary_43 : decode (rm_code mProcessor_addBinary) 43 = .ok (.iload_n 2, 1) := by decide +kernel
theorem d_Processor_addBinary_44 : decode (rm_code mProcessor_addBinary) 44 = .ok (.sipush (255), 3) := by decide +kernel
theorem d_Processor_addBinary_47 : decode (rm_code mProcessor_addBinary) 47 = .ok (.if_icmp .le (7), 3) := by decide +kernel
theorem d_Processor_addBinary_50 : decode (rm_code mProcessor_addBinary) 50 = .ok (.iconst 1, 1) := by decide +kernel
theorem d_Processor_addBinary_51 : decode (rm_code mProcessor_addBinary) 51 = .ok (.goto (4), 3) := by decide +kernel
theorem d_Processor_addBinary_54 : decode (rm_code mProcessor_addBinary) 54 = .ok (.iconst 0, 1) := by decide +kernel
theorem d_Processor_addBinary_55 : decode (rm_code mProcessor_addBinary) 55 = .ok (.istore 4, 2) := by decide +kernel
theorem d_Processor_addBinary_57 : decode (rm_code mProcessor_addBinary) 57 = .ok (.iload_n 2, 1) := by decide +kernel
theorem d_Processor_addBinary_58 : decode (rm_code mProcessor_addBinary) 58 = .ok (.sipush (255), 3) := by decide +kernel
theorem d_Processor_addBinary_61 : decode (rm_code mProcessor_addBinary) 61 = .ok (.iand, 1) := by decide +kernel
theorem d_Processor_addBinary_62 : decode (rm_code mProcessor_addBinary) 62 = .ok (.ifCond .ne (7), 3) := by decide +kernel
theorem d_Processor_addBinary_65 : decode (rm_code mProcessor_addBinary) 65 = .ok (.iconst 2, 1) := by decide +kernel
theorem d_Processor_addBinary_66 : decode (rm_code mProcessor_addBinary) 66 = .ok (.goto (4), 3) := by decide +kernel
theorem d_Processor_addBinary_69 : decode (rm_code mProcessor_addBinary) 69 = .ok (.iconst 0, 1) := by decide +kernel
theorem d_Processor_addBinary_70 : decode (rm_code mProcessor_addBinary) 70 = .ok (.istore 5, 2) := by decide +kernel
theorem d_Processor_addBinary_72 : decode (rm_code mProcessor_addBinary) 72 = .ok (.aload_n 0, 1) := by decide +kernel
theorem d_Processor_addBinary_73 : decode (rm_code mProcessor_addBinary) 73 = .ok (.aload_n 0, 1) := by decide +kernel
theorem d_Processor_addBinary_74 : decode (rm_code mProcessor_addBinary) 74 = .ok (.getfield 27, 3) := by decide +kernel
theorem d_Processor_addBinary_77 : decode (rm_code mProcessor_addBinary) 77 = .ok (.sipush (-196), 3) := by decide +kernel
theorem d_Processor_addBinary_80 : decode (rm_code mProcessor_addBinary) 80 = .ok (.iand, 1) := by decide +kernel
theorem d_Processor_addBinary_81 : decode (rm_code mProcessor_addBinary) 81 = .ok (.iload_n 2, 1) := by decide +kernel
theorem d_Processor_addBinary_82 : decode (rm_code mProcessor_addBinary) 82 = .ok (.sipush (128), 3) := by decide +kernel
theorem d_Processor_addBinary_85 : decode (rm_code mProcessor_addBinary) 85 = .ok (.iand, 1) := by decide +kernel
theorem d_Processor_addBinary_86 : decode (rm_code mProcessor_addBinary) 86 = .ok (.ior, 1) := by decide +kernel
theorem d_Processor_addBinary_87 : decode (rm_code mProcessor_addBinary) 87 = .ok (.iload_n 3, 1) := by decide +kernel
theorem d_Processor_addBinary_88 : decode (rm_code mProcessor_addBinary) 88 = .ok (.ior, 1) := by decide +kernel
theorem d_Processor_addBinary_89 : decode (rm_code mProcessor_addBinary) 89 = .ok (.iload 5, 2) := by decide +kernel
theorem d_Processor_addBinary_91 : decode (rm_code mProcessor_addBinary) 91 = .ok (.ior, 1) := by decide +kernel
theorem d_Processor_addBinary_92 : decode (rm_code mProcessor_addBinary) 92 = .ok (.iload 4, 2) := by decide +kernel
theorem d_Processor_addBinary_94 : decode (rm_code mProcessor_addBinary) 94 = .ok (.ior, 1) := by decide +kernel
theorem d_Processor_addBinary_95 : decode (rm_code mProcessor_addBinary) 95 = .ok (.putfield 27, 3) := by decide +kernel
theorem d_Processor_addBinary_98 : decode (rm_code mProcessor_addBinary) 98 = .ok (.aload_n 0, 1) := by decide +kernel
theorem d_Processor_addBinary_99 : decode (rm_code mProcessor_addBinary) 99 = .ok (.iload_n 2, 1) := by decide +kernel
theorem d_Processor_addBinary_100 : decode (rm_code mProcessor_addBinary) 100 = .ok (.sipush (255), 3) := by decide +kernel
theorem d_Processor_addBinary_103 : decode (rm_code mProcessor_addBinary) 103 = .ok (.iand, 1) := by decide +kernel
theorem d_Processor_addBinary_104 : decode (rm_code mProcessor_addBinary) 104 = .ok (.putfield 30, 3) := by decide +kernel
theorem d_Processor_addBinary_107 : decode (rm_code mProcessor_addBinary) 107 = .ok (.return_, 1) := by decide +kernel
theorem p_Processor_addBinary_0 {S : rz_S} {K : rz_S → Prop} {a1 : Int32} (w : ((((((S.2 37 0) ^^^ a1) ^^^ (-1)) &&& ((S.2 37 0) ^^^ (((S.2 37 0) + a1) + ((S.2 37 4) &&& 1)))) &&& 128 = 0 → rz mProcessor_addBinary 42 [(0, .ref 37), (2, .int (((S.2 37 0) + a1) + ((S.2 37 4) &&& 1)))] [.int 0] S (rz_v K)) ∧ (¬ ((((S.2 37 0) ^^^ a1) ^^^ (-1)) &&& ((S.2 37 0) ^^^ (((S.2 37 0) + a1) + ((S.2 37 4) &&& 1)))) &&& 128 = 0 → rz mProcessor_addBinary 42 [(0, .ref 37), (2, .int (((S.2 37 0) + a1) + ((S.2 37 4) &&& 1)))] [.int 64] S (rz_v K)))) : rz mProcessor_addBinary 0 [(0, .ref 37), (1, .int a1)] [] S (rz_v K) := by
  refine rz_pure (pc' := 1) d_Processor_addBinary_0 rfl ?_
  refine rz_getiv (v := S.2 37 0) d_Processor_addBinary_1 f_7_30 rfl rfl rfl ?_
  refine rz_pure (pc' := 5) d_Processor_addBinary_4 rfl ?_
  refine rz_iadd d_Processor_addBinary_5 ?_
  refine rz_pure (pc' := 7) d_Processor_addBinary_6 rfl ?_
  refine rz_getiv (v := S.2 37 4) d_Processor_addBinary_7 f_7_27 rfl rfl rfl ?_
  refine rz_iconst (v := 1) d_Processor_addBinary_10 (by decide) ?_
  refine rz_iand d_Processor_addBinary_11 ?_
  refine rz_iadd d_Processor_addBinary_12 ?_
  refine rz_pure (pc' := 14) (l' := [(2, .int (((S.2 37 0) + a1) + ((S.2 37 4) &&& 1))), (0, .ref 37), (1, .int a1)]) d_Processor_addBinary_13 rfl ?_
  refine rz_pure (pc' := 15) d_Processor_addBinary_14 rfl ?_
  refine rz_getiv (v := S.2 37 0) d_Processor_addBinary_15 f_7_30 rfl rfl rfl ?_
  refine rz_pure (pc' := 19) d_Processor_addBinary_18 rfl ?_
  refine rz_ixor d_Processor_addBinary_19 ?_
  refine rz_iconst (v := -1) d_Processor_addBinary_20 (by decide) ?_
  refine rz_ixor d_Processor_addBinary_21 ?_
  refine rz_pure (pc' := 23) d_Processor_addBinary_22 rfl ?_
  refine rz_getiv (v := S.2 37 0) d_Processor_addBinary_23 f_7_30 rfl rfl rfl ?_
  refine rz_pure (pc' := 27) d_Processor_addBinary_26 rfl ?_
  refine rz_ixor d_Processor_addBinary_27 ?_
  refine rz_iand d_Processor_addBinary_28 ?_
  refine rz_sipush (v := 128) d_Processor_addBinary_29 (by decide) ?_
  refine rz_iand d_Processor_addBinary_32 ?_
  refine rz_ifeq (tgt := 41) d_Processor_addBinary_33 rfl (fun b1 => ?_) (fun b1 => ?_)
  · skip
    refine rz_iconst (v := 0) d_Processor_addBinary_41 (by decide) ?_
    exact rz_pick (ks := [0, 2]) (l := [(0, .ref 37), (2, .int (((S.2 37 0) + a1) + ((S.2 37 4) &&& 1)))]) rfl rfl (by decide) rfl (w.1 b1)
  · skip
    refine rz_bipush (v := 64) d_Processor_addBinary_36 (by decide) ?_
    refine rz_pure (pc' := 42) d_Processor_addBinary_38 rfl ?_
    exact rz_pick (ks := [0, 2]) (l := [(0, .ref 37), (2, .int (((S.2 37 0) + a1) + ((S.2 37 4) &&& 1)))]) rfl rfl (by decide) rfl (w.2 b1)
theorem p_Processor_addBinary_42 {S : rz_S} {K : rz_S → Prop} {a2 : Int32} {s0 : Int32} (w : ((a2 ≤ 255 → rz mProcessor_addBinary 55 [(0, .ref 37), (2, .int a2), (3, .int s0)] [.int 0] S (rz_v K)) ∧ (¬ a2 ≤ 255 → rz mProcessor_addBinary 55 [(0, .ref 37), (2, .int a2), (3, .int s0)] [.int 1] S (rz_v K)))) : rz mProcessor_addBinary 42 [(0, .ref 37), (2, .int a2)] [.int s0] S (rz_v K) := by
  refine rz_pure (pc' := 43) (l' := [(3, .int s0), (0, .ref 37), (2, .int a2)]) d_Processor_addBinary_42 rfl ?_
  refine rz_pure (pc' := 44) d_Processor_addBinary_43 rfl ?_
  refine rz_sipush (v := 255) d_Processor_addBinary_44 (by decide) ?_
  refine rz_icmple (tgt := 54) d_Processor_addBinary_47 rfl (fun b1 => ?_) (fun b1 => ?_)
  · skip
    refine rz_iconst (v := 0) d_Processor_addBinary_54 (by decide) ?_
    exact rz_pick (ks := [0, 2, 3]) (l := [(0, .ref 37), (2, .int a2), (3, .int s0)]) rfl rfl (by decide) rfl (w.1 b1)
  · skip
    refine rz_iconst (v := 1) d_Processor_addBinary_50 (by decide) ?_
    refine rz_pure (pc' := 55) d_Processor_addBinary_51 rfl ?_
    exact rz_pick (ks := [0, 2, 3]) (l := [(0, .ref 37), (2, .int a2), (3, .int s0)]) rfl rfl (by decide) rfl (w.2 b1)
theorem p_Processor_addBinary_55 {S : rz_S} {K : rz_S → Prop} {a2 : Int32} {a3 : Int32} {s0 : Int32} (w : ((a2 &&& 255 = 0 → rz mProcessor_addBinary 70 [(0, .ref 37), (2, .int a2), (3, .int a3), (4, .int s0)] [.int 2] S (rz_v K)) ∧ (¬ a2 &&& 255 = 0 → rz mProcessor_addBinary 70 [(0, .ref 37), (2, .int a2), (3, .int a3), (4, .int s0)] [.int 0] S (rz_v K)))) : rz mProcessor_addBinary 55 [(0, .ref 37), (2, .int a2), (3, .int a3)] [.int s0] S (rz_v K) := by
  refine rz_pure (pc' := 57) (l' := [(4, .int s0), (0, .ref 37), (2, .int a2), (3, .int a3)]) d_Processor_addBinary_55 rfl ?_
  refine rz_pure (pc' := 58) d_Processor_addBinary_57 rfl ?_
  refine rz_sipush (v := 255) d_Processor_addBinary_58 (by decide) ?_
  refine rz_iand d_Processor_addBinary_61 ?_
  refine rz_ifne (tgt := 69) d_Processor_addBinary_62 rfl (fun b1 => ?_) (fun b1 => ?_)
  · skip
    refine rz_iconst (v := 0) d_Processor_addBinary_69 (by decide) ?_
    exact rz_pick (ks := [0, 2, 3, 4]) (l := [(0, .ref 37), (2, .int a2), (3, .int a3), (4, .int s0)]) rfl rfl (by decide) rfl (w.2 b1)
  · skip
    refine rz_iconst (v := 2) d_Processor_addBinary_65 (by decide) ?_
    refine rz_pure (pc' := 70) d_Processor_addBinary_66 rfl ?_
    exact rz_pick (ks := [0, 2, 3, 4]) (l := [(0, .ref 37), (2, .int a2), (3, .int a3), (4, .int s0)]) rfl rfl (by decide) rfl (w.1 b1)
theorem p_Processor_addBinary_70 {S : rz_S} {K : rz_S → Prop} {a2 : Int32} {a3 : Int32} {a4 : Int32} {s0 : Int32} (w : K (rz_uI (rz_uI S 37 4 ((((((S.2 37 4) &&& (-196)) ||| (a2 &&& 128)) ||| a3) ||| s0) ||| a4)) 37 0 (a2 &&& 255))) : rz mProcessor_addBinary 70 [(0, .ref 37), (2, .int a2), (3, .int a3), (4, .int a4)] [.int s0] S (rz_v K) := by
  refine rz_pure (pc' := 72) (l' := [(5, .int s0), (0, .ref 37), (2, .int a2), (3, .int a3), (4, .int a4)]) d_Processor_addBinary_70 rfl ?_
  refine rz_pure (pc' := 73) d_Processor_addBinary_72 rfl ?_
  refine rz_pure (pc' := 74) d_Processor_addBinary_73 rfl ?_
  refine rz_getiv (v := S.2 37 4) d_Processor_addBinary_74 f_7_27 rfl rfl rfl ?_
  refine rz_sipush (v := -196) d_Processor_addBinary_77 (by decide) ?_
  refine rz_iand d_Processor_addBinary_80 ?_
  refine rz_pure (pc' := 82) d_Processor_addBinary_81 rfl ?_
  refine rz_sipush (v := 128) d_Processor_addBinary_82 (by decide) ?_
  refine rz_iand d_Processor_addBinary_85 ?_
  refine rz_ior d_Processor_addBinary_86 ?_
  refine rz_pure (pc' := 88) d_Processor_addBinary_87 rfl ?_
  refine rz_ior d_Processor_addBinary_88 ?_
  refine rz_pure (pc' := 91) d_Processor_addBinary_89 rfl ?_
  refine rz_ior d_Processor_addBinary_91 ?_
  refine rz_pure (pc' := 94) d_Processor_addBinary_92 rfl ?_
  refine rz_ior d_Processor_addBinary_94 ?_
  refine rz_puti d_Processor_addBinary_95 f_7_27 rfl rfl rfl ?_
  refine rz_pure (pc' := 99) d_Processor_addBinary_98 rfl ?_
  refine rz_pure (pc' := 100) d_Processor_addBinary_99 rfl ?_
  refine rz_sipush (v := 255) d_Processor_addBinary_100 (by decide) ?_
  refine rz_iand d_Processor_addBinary_103 ?_
  refine rz_puti d_Processor_addBinary_104 f_7_30 rfl rfl rfl ?_
  exact rz_vretv d_Processor_addBinary_107 rfl w
theorem d_Processor_flag_0 : decode (rm_code mProcessor_flag) 0 = .ok (.aload_n 0, 1) := by decide +kernel
theorem d_Processor_flag_1 : decode (rm_code mProcessor_flag) 1 = .ok (.iload_n 2, 1) := by decide +kernel
theorem d_Processor_flag_2 : decode (rm_code mProcessor_flag) 2 = .ok (.ifCond .eq (12), 3) := by decide +kernel
theorem d_Processor_flag_5 : decode (rm_code mProcessor_flag) 5 = .ok (.aload_n 0, 1) := by decide +kernel
theorem d_Processor_flag_6 : decode (rm_code mProcessor_flag) 6 = .ok (.getfield 27, 3) := by decide +kernel
theorem d_Processor_flag_9 : decode (rm_code mProcessor_flag) 9 = .ok (.iload_n 1, 1) := by decide +kernel
theorem d_Processor_flag_10 : decode (rm_code mProcessor_flag) 10 = .ok (.ior, 1) := by decide +kernel
theorem d_Processor_flag_11 : decode (rm_code mProcessor_flag) 11 = .ok (.goto (11), 3) := by decide +kernel
theorem d_Processor_flag_14 : decode (rm_code mProcessor_flag) 14 = .ok (.aload_n 0, 1) := by decide +kernel
theorem d_Processor_flag_15 : decode (rm_code mProcessor_flag) 15 = .ok (.getfield 27, 3) := by decide +kernel
theorem d_Processor_flag_18 : decode (rm_code mProcessor_flag) 18 = .ok (.iload_n 1, 1) := by decide +kernel
theorem d_Processor_flag_19 : decode (rm_code mProcessor_flag) 19 = .ok (.iconst (-1), 1) := by decide +kernel
theorem d_Processor_flag_20 : decode (rm_code mProcessor_flag) 20 = .ok (.ixor, 1) := by decide +kernel
theorem d_Processor_flag_21 : decode (rm_code mProcessor_flag) 21 = .ok (.iand, 1) := by decide +kernel
theorem d_Processor_flag_22 : decode (rm_code mProcessor_flag) 22 = .ok (.putfield 27, 3) := by decide +kernel
theorem d_Processor_flag_25 : decode (rm_code mProcessor_flag) 25 = .ok (.return_, 1) := by decide +kernel
theorem p_Processor_flag_0 {S : rz_S} {K : rz_S → Prop} {a1 : Int32} {a2 : Int32} (w : ((a2 = 0 → K (rz_uI S 37 4 ((S.2 37 4) &&& (a1 ^^^ (-1))))) ∧ (¬ a2 = 0 → K (rz_uI S 37 4 ((S.2 37 4) ||| a1))))) : rz mProcessor_flag 0 [(0, .ref 37), (1, .int a1), (2, .int a2)] [] S (rz_v K) := by
  refine rz_pure (pc' := 1) d_Processor_flag_0 rfl ?_
  refine rz_pure (pc' := 2) d_Processor_flag_1 rfl ?_
  refine rz_ifeq (tgt := 14) d_Processor_flag_2 rfl (fun b1 => ?_) (fun b1 => ?_)
  · skip
    refine rz_pure (pc' := 15) d_Processor_flag_14 rfl ?_
    refine rz_getiv (v := S.2 37 4) d_Processor_flag_15 f_7_27 rfl rfl rfl ?_
    refine rz_pure (pc' := 19) d_Processor_flag_18 rfl ?_
    refine rz_iconst (v := -1) d_Processor_flag_19 (by decide) ?_
    refine rz_ixor d_Processor_flag_20 ?_
    refine rz_iand d_Processor_flag_21 ?_
    refine rz_puti d_Processor_flag_22 f_7_27 rfl rfl rfl ?_
    exact rz_vretv d_Processor_flag_25 rfl (w.1 b1)
  · skip
    refine rz_pure (pc' := 6) d_Processor_flag_5 rfl ?_
    refine rz_getiv (v := S.2 37 4) d_Processor_flag_6 f_7_27 rfl rfl rfl ?_
    refine rz_pure (pc' := 10) d_Processor_flag_9 rfl ?_
    refine rz_ior d_Processor_flag_10 ?_
    refine rz_pure (pc' := 22) d_Processor_flag_11 rfl ?_
    refine rz_puti d_Processor_flag_22 f_7_27 rfl rfl rfl ?_
    exact rz_vretv d_Processor_flag_25 rfl (w.2 b1)
theorem d_Processor_subtract_0 : decode (rm_code mProcessor_subtract) 0 = .ok (.aload_n 0, 1) := by decide +kernel
theorem d_Processor_subtract_1 : decode (rm_code mProcessor_subtract) 1 = .ok (.getfield 30, 3) := by decide +kernel
theorem d_Processor_subtract_4 : decode (rm_code mProcessor_subtract) 4 = .ok (.bipush (15), 2) := by decide +kernel
theorem d_Processor_subtract_6 : decode (rm_code mProcessor_subtract) 6 = .ok (.iand, 1) := by decide +kernel
theorem d_Processor_subtract_7 : decode (rm_code mProcessor_subtract) 7 = .ok (.iload_n 1, 1) := by decide +kernel
theorem d_Processor_subtract_8 : decode (rm_code mProcessor_subtract) 8 = .ok (.bipush (15), 2) := by decide +kernel
theorem d_Processor_subtract_10 : decode (rm_code mProcessor_subtract) 10 = .ok (.iand, 1) := by decide +kernel
theorem d_Processor_subtract_11 : decode (rm_code mProcessor_subtract) 11 = .ok (.isub, 1) := by decide +kernel
theorem d_Processor_subtract_12 : decode (rm_code mProcessor_subtract) 12 = .ok (.iconst 1, 1) := by decide +kernel
theorem d_Processor_subtract_13 : decode (rm_code mProcessor_subtract) 13 = .ok (.isub, 1) := by decide +kernel
theorem d_Processor_subtract_14 : decode (rm_code mProcessor_subtract) 14 = .ok (.aload_n 0, 1) := by decide +kernel
theorem d_Processor_subtract_15 : decode (rm_code mProcessor_subtract) 15 = .ok (.getfield 27, 3) := by decide +kernel
theorem d_Processor_subtract_18 : decode (rm_code mProcessor_subtract) 18 = .ok (.iconst 1, 1) := by decide +kernel
theorem d_Processor_subtract_19 : decode (rm_code mProcessor_subtract) 19 = .ok (.iand, 1) := by decide +kernel
theorem d_Processor_subtract_20 : decode (rm_code mProcessor_subtract) 20 = .ok (.iadd, 1) := by decide +kernel
theorem d_Processor_subtract_21 : decode (rm_code mProcessor_subtract) 21 = .ok (.istore_n 2, 1) := by decide +kernel
theorem d_Processor_subtract_22 : decode (rm_code mProcessor_subtract) 22 = .ok (.iload_n 2, 1) := by decide +kernel
theorem d_Processor_subtract_23 : decode (rm_code mProcessor_subtract) 23 = .ok (.ifCond .ge (14), 3) := by decide +kernel
theorem d_Processor_subtract_26 : decode (rm_code mProcessor_subtract) 26 = .ok (.iload_n 2, 1) := by decide +kernel
theorem d_Processor_subtract_27 : decode (rm_code mProcessor_subtract) 27 = .ok (.bipush (6), 2) := by decide +kernel
theorem d_Processor_subtract_29 : decode (rm_code mProcessor_subtract) 29 = .ok (.isub, 1) := by decide +kernel
theorem d_Processor_subtract_30 : decode (rm_code mProcessor_subtract) 30 = .ok (.bipush (15), 2) := by decide +kernel
theorem d_Processor_subtract_32 : decode (rm_code mProcessor_subtract) 32 = .ok (.iand, 1) := by decide +kernel
theorem d_Processor_subtract_33 : decode (rm_code mProcessor_subtract) 33 = .ok (.bipush (16), 2) := by decide +kernel
theorem d_Processor_subtract_35 : decode (rm_code mProcessor_subtract) 35 = .ok (.isub, 1) := by decide +kernel
theorem d_Processor_subtract_36 : decode (rm_code mProcessor_subtract) 36 = .ok (.istore_n 2, 1) := by decide +kernel
theorem d_Processor_subtract_37 : decode (rm_code mProcessor_subtract) 37 = .ok (.aload_n 0, 1) := by decide +kernel
theorem d_Processor_subtract_38 : decode (rm_code mProcessor_subtract) 38 = .ok (.getfield 30, 3) := by decide +kernel
theorem d_Processor_subtract_41 : decode (rm_code mProcessor_subtract) 41 = .ok (.sipush (240), 3) := by decide +kernel
theorem d_Processor_subtract_44 : decode (rm_code mProcessor_subtract) 44 = .ok (.iand, 1) := by decide +kernel
theorem d_Processor_subtract_45 : decode (rm_code mProcessor_subtract) 45 = .ok (.iload_n 1, 1) := by decide +kernel
theorem d_Processor_subtract_46 : decode (rm_code mProcessor_subtract) 46 = .ok (.sipush (240), 3) := by decide +kernel
theorem d_Processor_subtract_49 : decode (rm_code mProcessor_subtract) 49 = .ok (.iand, 1) := by decide +kernel
theorem d_Processor_subtract_50 : decode (rm_code mProcessor_subtract) 50 = .ok (.isub, 1) := by decide +kernel
theorem d_Processor_subtract_51 : decode (rm_code mProcessor_subtract) 51 = .ok (.iload_n 2, 1) := by decide +kernel
theorem d_Processor_subtract_52 : decode (rm_code mProcessor_subtract) 52 = .ok (.iadd, 1) := by decide +kernel
theorem d_Processor_subtract_53 : decode (rm_code mProcessor_subtract) 53 = .ok (.istore_n 3, 1) := by decide +kernel
theorem d_Processor_subtract_54 : decode (rm_code mProcessor_subtract) 54 = .ok (.iload_n 3, 1) := by decide +kernel
theorem d_Processor_subtract_55 : decode (rm_code mProcessor_subtract) 55 = .ok (.ifCond .ge (6), 3) := by decide +kernel
theorem d_Processor_subtract_58 : decode (rm_code mProcessor_subtract) 58 = .ok (.iinc 3 (-96), 3) := by decide +kernel
theorem d_Processor_subtract_61 : decode (rm_code mProcessor_subtract) 61 = .ok (.aload_n 0, 1) := by decide +kernel
theorem d_Processor_subtract_62 : decode (rm_code mProcessor_subtract) 62 = .ok (.iload_n 1, 1) := by decide +kernel
theorem d_Processor_subtract_63 : decode (rm_code mProcessor_subtract) 63 = .ok (.sipush (255), 3) := by decide +kernel
theorem d_Processor_subtract_66 : decode (rm_code mProcessor_subtract) 66 = .ok (.ixor, 1) := by decide +kernel
theorem d_Processor_subtract_67 : decode (rm_code mProcessor_subtract) 67 = .ok (.invokevirtual 127, 3) := by decide +kernel
theorem d_Processor_subtract_70 : decode (rm_code mProcessor_subtract) 70 = .ok (.aload_n 0, 1) := by decide +kernel
theorem d_Processor_subtract_71 : decode (rm_code mProcessor_subtract) 71 = .ok (.bipush (8), 2) := by decide +kernel
theorem d_Processor_subtract_73 : decode (rm_code mProcessor_subtract) 73 = .ok (.invokevirtual 123, 3) := by decide +kernel
theorem d_Processor_subtract_76 : decode (rm_code mProcessor_subtract) 76 = .ok (.ifCond .eq (12), 3) := by decide +kernel
theorem d_Processor_subtract_79 : decode (rm_code mProcessor_subtract) 79 = .ok (.aload_n 0, 1) := by decide +kernel
theorem d_Processor_subtract_80 : decode (rm_code mProcessor_subtract) 80 = .ok (.iload_n 3, 1) := by decide +kernel
theorem d_Processor_subtract_81 : decode (rm_code mProcessor_subtract) 81 = .ok (.sipush (255), 3) := by decide +kernel
theorem d_Processor_subtract_84 : decode (rm_code mProcessor_subtract) 84 = .ok (.iand, 1) := by decide +kernel
theorem d_Processor_subtract_85 : decode (rm_code mProcessor_subtract) 85 = .ok (.putfield 30, 3) := by decide +kernel
theorem d_Processor_subtract_88 : decode (rm_code mProcessor_subtract) 88 = .ok (.return_, 1) := by decide +kernel
theorem p_Processor_subtract_0 {S : rz_S} {K : rz_S → Prop} {a1 : Int32} (w : ((0 ≤ ((((S.2 37 0) &&& 15) - (a1 &&& 15)) - 1) + ((S.2 37 4) &&& 1) → rz mProcessor_subtract 37 [(0, .ref 37), (1, .int a1), (2, .int (((((S.2 37 0) &&& 15) - (a1 &&& 15)) - 1) + ((S.2 37 4) &&& 1)))] [] S (rz_v K)) ∧ (¬ 0 ≤ ((((S.2 37 0) &&& 15) - (a1 &&& 15)) - 1) + ((S.2 37 4) &&& 1) → rz mProcessor_subtract 37 [(0, .ref 37), (1, .int a1), (2, .int ((((((((S.2 37 0) &&& 15) - (a1 &&& 15)) - 1) + ((S.2 37 4) &&& 1)) - 6) &&& 15) - 16))] [] S (rz_v K)))) : rz mProcessor_subtract 0 [(0, .ref 37), (1, .int a1)] [] S (rz_v K) := by
  refine rz_pure (pc' := 1) d_Processor_subtract_0 rfl ?_
  refine rz_getiv (v := S.2 37 0) d_Processor_subtract_1 f_7_30 rfl rfl rfl ?_
  refine rz_bipush (v := 15) d_Processor_subtract_4 (by decide) ?_
  refine rz_iand d_Processor_subtract_6 ?_
  refine rz_pure (pc' := 8) d_Processor_subtract_7 rfl ?_
  refine rz_bipush (v := 15) d_Processor_subtract_8 (by decide) ?_
  refine rz_iand d_Processor_subtract_10 ?_
  refine rz_isub d_Processor_subtract_11 ?_
  refine rz_iconst (v := 1) d_Processor_subtract_12 (by decide) ?_
  refine rz_isub d_Processor_subtract_13 ?_
  refine rz_pure (pc' := 15) d_Processor_subtract_14 rfl ?_
  refine rz_getiv (v := S.2 37 4) d_Processor_subtract_15 f_7_27 rfl rfl rfl ?_
  refine rz_iconst (v := 1) d_Processor_subtract_18 (by decide) ?_
  refine rz_iand d_Processor_subtract_19 ?_
  refine rz_iadd d_Processor_subtract_20 ?_
  refine rz_pure (pc' := 22) (l' := [(2, .int (((((S.2 37 0) &&& 15) - (a1 &&& 15)) - 1) + ((S.2 37 4) &&& 1))), (0, .ref 37), (1, .int a1)]) d_Processor_subtract_21 rfl ?_
  refine rz_pure (pc' := 23) d_Processor_subtract_22 rfl ?_
  refine rz_ifge (tgt := 37) d_Processor_subtract_23 rfl (fun b1 => ?_) (fun b1 => ?_)
  · skip
    exact rz_pick (ks := [0, 1, 2]) (l := [(0, .ref 37), (1, .int a1), (2, .int (((((S.2 37 0) &&& 15) - (a1 &&& 15)) - 1) + ((S.2 37 4) &&& 1)))]) rfl rfl (by decide) rfl (w.1 b1)
  · skip
    refine rz_pure (pc' := 27) d_Processor_subtract_26 rfl ?_
    refine rz_bipush (v := 6) d_Processor_subtract_27 (by decide) ?_
    refine rz_isub d_Processor_subtract_29 ?_
    refine rz_bipush (v := 15) d_Processor_subtract_30 (by decide) ?_
    refine rz_iand d_Processor_subtract_32 ?_
    refine rz_bipush (v := 16) d_Processor_subtract_33 (by decide) ?_
    refine rz_isub d_Processor_subtract_35 ?_
    refine rz_pure (pc' := 37) (l' := [(2, .int ((((((((S.2 37 0) &&& 15) - (a1 &&& 15)) - 1) + ((S.2 37 4) &&& 1)) - 6) &&& 15) - 16)), (0, .ref 37), (1, .int a1)]) d_Processor_subtract_36 rfl ?_
    exact rz_pick (ks := [0, 1, 2]) (l := [(0, .ref 37), (1, .int a1), (2, .int ((((((((S.2 37 0) &&& 15) - (a1 &&& 15)) - 1) + ((S.2 37 4) &&& 1)) - 6) &&& 15) - 16))]) rfl rfl (by decide) rfl (w.2 b1)
theorem p_Processor_subtract_37 {S : rz_S} {K : rz_S → Prop} {a1 : Int32} {a2 : Int32} (w : ((0 ≤ (((S.2 37 0) &&& 240) - (a1 &&& 240)) + a2 → rz mProcessor_subtract 61 [(0, .ref 37), (1, .int a1), (3, .int ((((S.2 37 0) &&& 240) - (a1 &&& 240)) + a2))] [] S (rz_v K)) ∧ (¬ 0 ≤ (((S.2 37 0) &&& 240) - (a1 &&& 240)) + a2 → rz mProcessor_subtract 61 [(0, .ref 37), (1, .int a1), (3, .int ((((S.2 37 0) &&& 240) - (a1 &&& 240)) + a2 + (-96)))] [] S (rz_v K)))) : rz mProcessor_subtract 37 [(0, .ref 37), (1, .int a1), (2, .int a2)] [] S (rz_v K) := by
  refine rz_pure (pc' := 38) d_Processor_subtract_37 rfl ?_
  refine rz_getiv (v := S.2 37 0) d_Processor_subtract_38 f_7_30 rfl rfl rfl ?_
  refine rz_sipush (v := 240) d_Processor_subtract_41 (by decide) ?_
  refine rz_iand d_Processor_subtract_44 ?_
  refine rz_pure (pc' := 46) d_Processor_subtract_45 rfl ?_
  refine rz_sipush (v := 240) d_Processor_subtract_46 (by decide) ?_
  refine rz_iand d_Processor_subtract_49 ?_
  refine rz_isub d_Processor_subtract_50 ?_
  refine rz_pure (pc' := 52) d_Processor_subtract_51 rfl ?_
  refine rz_iadd d_Processor_subtract_52 ?_
  refine rz_pure (pc' := 54) (l' := [(3, .int ((((S.2 37 0) &&& 240) - (a1 &&& 240)) + a2)), (0, .ref 37), (1, .int a1), (2, .int a2)]) d_Processor_subtract_53 rfl ?_
  refine rz_pure (pc' := 55) d_Processor_subtract_54 rfl ?_
  refine rz_ifge (tgt := 61) d_Processor_subtract_55 rfl (fun b1 => ?_) (fun b1 => ?_)
  · skip
    exact rz_pick (ks := [0, 1, 3]) (l := [(0, .ref 37), (1, .int a1), (3, .int ((((S.2 37 0) &&& 240) - (a1 &&& 240)) + a2))]) rfl rfl (by decide) rfl (w.1 b1)
  · skip
    refine rz_pure (pc' := 61) (l' := [(3, .int ((((S.2 37 0) &&& 240) - (a1 &&& 240)) + a2 + (-96))), (0, .ref 37), (1, .int a1), (2, .int a2)]) d_Processor_subtract_58 rfl ?_
    exact rz_pick (ks := [0, 1, 3]) (l := [(0, .ref 37), (1, .int a1), (3, .int ((((S.2 37 0) &&& 240) - (a1 &&& 240)) + a2 + (-96)))]) rfl rfl (by decide) rfl (w.2 b1)
theorem p_Processor_subtract_61 {S : rz_S} {K : rz_S → Prop} {a1 : Int32} {a3 : Int32} (w : rz_ev mProcessor_addBinary [.ref 37, .int (a1 ^^^ 255)] S (rz_v (fun Sq1 => rz_ev mProcessor_has [.ref 37, .int 8] Sq1 (rz_i (fun xq2 Sq2 => ((xq2 = 0 → K Sq2) ∧ (¬ xq2 = 0 → K (rz_uI Sq2 37 0 (a3 &&& 255))))))))) : rz mProcessor_subtract 61 [(0, .ref 37), (1, .int a1), (3, .int a3)] [] S (rz_v K) := by
  refine rz_pure (pc' := 62) d_Processor_subtract_61 rfl ?_
  refine rz_pure (pc' := 63) d_Processor_subtract_62 rfl ?_
  refine rz_sipush (v := 255) d_Processor_subtract_63 (by decide) ?_
  refine rz_ixor d_Processor_subtract_66 ?_
  refine rz_callVv (t := [.int (a1 ^^^ 255)]) d_Processor_subtract_67 w_7_127 rfl rfl rfl w (fun Sq1 q1 => ?_)
  refine rz_pure (pc' := 71) d_Processor_subtract_70 rfl ?_
  refine rz_bipush (v := 8) d_Processor_subtract_71 (by decide) ?_
  refine rz_callVi (t := [.int 8]) d_Processor_subtract_73 w_7_123 rfl rfl rfl q1 (fun xq2 Sq2 q2 => ?_)
  refine rz_ifeq (tgt := 88) d_Processor_subtract_76 rfl (fun b3 => ?_) (fun b3 => ?_)
  · skip
    exact rz_vretv d_Processor_subtract_88 rfl (q2.1 b3)
  · skip
    refine rz_pure (pc' := 80) d_Processor_subtract_79 rfl ?_
    refine rz_pure (pc' := 81) d_Processor_subtract_80 rfl ?_
    refine rz_sipush (v := 255) d_Processor_subtract_81 (by decide) ?_
    refine rz_iand d_Processor_subtract_84 ?_
    refine rz_puti d_Processor_subtract_85 f_7_30 rfl rfl rfl ?_
    exact rz_vretv d_Processor_subtract_88 rfl (q2.2 b3)
theorem d_Processor_compare_0 : decode (rm_code mProcessor_compare) 0 = .ok (.aload_n 0, 1) := by decide +kernel
theorem d_Processor_compare_1 : decode (rm_code mProcessor_compare) 1 = .ok (.iload_n 1, 1) := by decide +kernel
theorem d_Processor_compare_2 : decode (rm_code mProcessor_compare) 2 = .ok (.iload_n 2, 1) := by decide +kernel
theorem d_Processor_compare_3 : decode (rm_code mProcessor_compare) 3 = .ok (.isub, 1) := by decide +kernel
theorem d_Processor_compare_4 : decode (rm_code mProcessor_compare) 4 = .ok (.invokevirtual 108, 3) := by decide +kernel
theorem d_Processor_compare_7 : decode (rm_code mProcessor_compare) 7 = .ok (.pop, 1) := by decide +kernel
theorem d_Processor_compare_8 : decode (rm_code mProcessor_compare) 8 = .ok (.aload_n 0, 1) := by decide +kernel
theorem d_Processor_compare_9 : decode (rm_code mProcessor_compare) 9 = .ok (.iconst 1, 1) := by decide +kernel
theorem d_Processor_compare_10 : decode (rm_code mProcessor_compare) 10 = .ok (.iload_n 1, 1) := by decide +kernel
theorem d_Processor_compare_11 : decode (rm_code mProcessor_compare) 11 = .ok (.iload_n 2, 1) := by decide +kernel
theorem d_Processor_compare_12 : decode (rm_code mProcessor_compare) 12 = .ok (.if_icmp .lt (7), 3) := by decide +kernel
theorem d_Processor_compare_15 : decode (rm_code mProcessor_compare) 15 = .ok (.iconst 1, 1) := by decide +kernel
theorem d_Processor_compare_16 : decode (rm_code mProcessor_compare) 16 = .ok (.goto (4), 3) := by decide +kernel
theorem d_Processor_compare_19 : decode (rm_code mProcessor_compare) 19 = .ok (.iconst 0, 1) := by decide +kernel
theorem d_Processor_compare_20 : decode (rm_code mProcessor_compare) 20 = .ok (.invokevirtual 117, 3) := by decide +kernel
theorem d_Processor_compare_23 : decode (rm_code mProcessor_compare) 23 = .ok (.return_, 1) := by decide +kernel
theorem p_Processor_compare_0 {S : rz_S} {K : rz_S → Prop} {a1 : Int32} {a2 : Int32} (w : rz_ev mProcessor_marked [.ref 37, .int (a1 - a2)] S (rz_i (fun xq1 Sq1 => ((a1 < a2 → rz mProcessor_compare 20 [] [.int 0, .int 1, .ref 37] Sq1 (rz_v K)) ∧ (¬ a1 < a2 → rz mProcessor_compare 20 [] [.int 1, .int 1, .ref 37] Sq1 (rz_v K)))))) : rz mProcessor_compare 0 [(0, .ref 37), (1, .int a1), (2, .int a2)] [] S (rz_v K) := by
  refine rz_pure (pc' := 1) d_Processor_compare_0 rfl ?_
  refine rz_pure (pc' := 2) d_Processor_compare_1 rfl ?_
  refine rz_pure (pc' := 3) d_Processor_compare_2 rfl ?_
  refine rz_isub d_Processor_compare_3 ?_
  refine rz_callVi (t := [.int (a1 - a2)]) d_Processor_compare_4 w_7_108 rfl rfl rfl w (fun xq1 Sq1 q1 => ?_)
  refine rz_pure (pc' := 8) d_Processor_compare_7 rfl ?_
  refine rz_pure (pc' := 9) d_Processor_compare_8 rfl ?_
  refine rz_iconst (v := 1) d_Processor_compare_9 (by decide) ?_
  refine rz_pure (pc' := 11) d_Processor_compare_10 rfl ?_
  refine rz_pure (pc' := 12) d_Processor_compare_11 rfl ?_
  refine rz_icmplt (tgt := 19) d_Processor_compare_12 rfl (fun b2 => ?_) (fun b2 => ?_)
  · skip
    refine rz_iconst (v := 0) d_Processor_compare_19 (by decide) ?_
    exact rz_pick (ks := []) (l := []) rfl rfl (by decide) rfl (q1.1 b2)
  · skip
    refine rz_iconst (v := 1) d_Processor_compare_15 (by decide) ?_
    refine rz_pure (pc' := 20) d_Processor_compare_16 rfl ?_
    exact rz_pick (ks := []) (l := []) rfl rfl (by decide) rfl (q1.2 b2)
theorem p_Processor_compare_20 {S : rz_S} {K : rz_S → Prop} {s0 : Int32} {s1 : Int32} (w : rz_ev mProcessor_flag [.ref 37, .int s1, .int s0] S (rz_v (fun Sq1 => K Sq1))) : rz mProcessor_compare 20 [] [.int s0, .int s1, .ref 37] S (rz_v K) := by
  refine rz_callVv (t := [.int s0, .int s1]) d_Processor_compare_20 w_7_117 rfl rfl rfl w (fun Sq1 q1 => ?_)
  exact rz_vretv d_Processor_compare_23 rfl q1
theorem d_Processor_changeValue_0 : decode (rm_code mProcessor_changeValue) 0 = .ok (.iload_n 2, 1) := by decide +kernel
theorem d_Processor_changeValue_1 : decode (rm_code mProcessor_changeValue) 1 = .ok (.ifCond .eq (10), 3) := by decide +kernel
theorem d_Processor_changeValue_4 : decode (rm_code mProcessor_changeValue) 4 = .ok (.aload_n 0, 1) := by decide +kernel
theorem d_Processor_changeValue_5 : decode (rm_code mProcessor_changeValue) 5 = .ok (.getfield 30, 3) := by decide +kernel
theorem d_Processor_changeValue_8 : decode (rm_code mProcessor_changeValue) 8 = .ok (.goto (11), 3) := by decide +kernel
theorem d_Processor_changeValue_11 : decode (rm_code mProcessor_changeValue) 11 = .ok (.aload_n 0, 1) := by decide +kernel
theorem d_Processor_changeValue_12 : decode (rm_code mProcessor_changeValue) 12 = .ok (.aload_n 0, 1) := by decide +kernel
theorem d_Processor_changeValue_13 : decode (rm_code mProcessor_changeValue) 13 = .ok (.getfield 69, 3) := by decide +kernel
theorem d_Processor_changeValue_16 : decode (rm_code mProcessor_changeValue) 16 = .ok (.invokevirtual 45, 3) := by decide +kernel
theorem d_Processor_changeValue_19 : decode (rm_code mProcessor_changeValue) 19 = .ok (.istore_n 3, 1) := by decide +kernel
theorem d_Processor_changeValue_20 : decode (rm_code mProcessor_changeValue) 20 = .ok (.aload_n 0, 1) := by decide +kernel
theorem d_Processor_changeValue_21 : decode (rm_code mProcessor_changeValue) 21 = .ok (.getfield 27, 3) := by decide +kernel
theorem d_Processor_changeValue_24 : decode (rm_code mProcessor_changeValue) 24 = .ok (.iconst 1, 1) := by decide +kernel
theorem d_Processor_changeValue_25 : decode (rm_code mProcessor_changeValue) 25 = .ok (.iand, 1) := by decide +kernel
theorem d_Processor_changeValue_26 : decode (rm_code mProcessor_changeValue) 26 = .ok (.istore 4, 2) := by decide +kernel
theorem d_Processor_changeValue_28 : decode (rm_code mProcessor_changeValue) 28 = .ok (.iload_n 1, 1) := by decide +kernel
theorem d_Processor_changeValue_29 : decode (rm_code mProcessor_changeValue) 29 = .ok (.tableswitch (147) (16) (20) #[(35), (60), (83), (111), (140)], 35) := by decide +kernel
theorem d_Processor_changeValue_64 : decode (rm_code mProcessor_changeValue) 64 = .ok (.aload_n 0, 1) := by decide +kernel
theorem d_Processor_changeValue_65 : decode (rm_code mProcessor_changeValue) 65 = .ok (.iconst 1, 1) := by decide +kernel
theorem d_Processor_changeValue_66 : decode (rm_code mProcessor_changeValue) 66 = .ok (.iload_n 3, 1) := by decide +kernel
theorem d_Processor_changeValue_67 : decode (rm_code mProcessor_changeValue) 67 = .ok (.sipush (128), 3) := by decide +kernel
theorem d_Processor_changeValue_70 : decode (rm_code mProcessor_changeValue) 70 = .ok (.iand, 1) := by decide +kernel
theorem d_Processor_changeValue_71 : decode (rm_code mProcessor_changeValue) 71 = .ok (.ifCond .eq (7), 3) := by decide +kernel
theorem d_Processor_changeValue_74 : decode (rm_code mProcessor_changeValue) 74 = .ok (.iconst 1, 1) := by decide +kernel
theorem d_Processor_changeValue_75 : decode (rm_code mProcessor_changeValue) 75 = .ok (.goto (4), 3) := by decide +kernel
theorem d_Processor_changeValue_78 : decode (rm_code mProcessor_changeValue) 78 = .ok (.iconst 0, 1) := by decide +kernel
theorem d_Processor_changeValue_79 : decode (rm_code mProcessor_changeValue) 79 = .ok (.invokevirtual 117, 3) := by decide +kernel
theorem d_Processor_changeValue_82 : decode (rm_code mProcessor_changeValue) 82 = .ok (.iload_n 3, 1) := by decide +kernel
theorem d_Processor_changeValue_83 : decode (rm_code mProcessor_changeValue) 83 = .ok (.iconst 1, 1) := by decide +kernel
theorem d_Processor_changeValue_84 : decode (rm_code mProcessor_changeValue) 84 = .ok (.ishl, 1) := by decide +kernel
theorem d_Processor_changeValue_85 : decode (rm_code mProcessor_changeValue) 85 = .ok (.istore_n 3, 1) := by decide +kernel
theorem d_Processor_changeValue_86 : decode (rm_code mProcessor_changeValue) 86 = .ok (.goto (94), 3) := by decide +kernel
theorem d_Processor_changeValue_89 : decode (rm_code mProcessor_changeValue) 89 = .ok (.aload_n 0, 1) := by decide +kernel
theorem d_Processor_changeValue_90 : decode (rm_code mProcessor_changeValue) 90 = .ok (.iconst 1, 1) := by decide +kernel
theorem d_Processor_changeValue_91 : decode (rm_code mProcessor_changeValue) 91 = .ok (.iload_n 3, 1) := by decide +kernel
theorem d_Processor_changeValue_92 : decode (rm_code mProcessor_changeValue) 92 = .ok (.iconst 1, 1) := by decide +kernel
theorem d_Processor_changeValue_93 : decode (rm_code mProcessor_changeValue) 93 = .ok (.iand, 1) := by decide +kernel
theorem d_Processor_changeValue_94 : decode (rm_code mProcessor_changeValue) 94 = .ok (.ifCond .eq (7), 3) := by decide +kernel
theorem d_Processor_changeValue_97 : decode (rm_code mProcessor_changeValue) 97 = .ok (.iconst 1, 1) := by decide +kernel
theorem d_Processor_changeValue_98 : decode (rm_code mProcessor_changeValue) 98 = .ok (.goto (4), 3) := by decide +kernel
theorem d_Processor_changeValue_101 : decode (rm_code mProcessor_changeValue) 101 = .ok (.iconst 0, 1) := by decide +kernel
theorem d_Processor_changeValue_102 : decode (rm_code mProcessor_changeValue) 102 = .ok (.invokevirtual 117, 3) := by decide +kernel
theorem d_Processor_changeValue_105 : decode (rm_code mProcessor_changeValue) 105 = .ok (.iload_n 3, 1) := by decide +kernel
theorem d_Processor_changeValue_106 : decode (rm_code mProcessor_changeValue) 106 = .ok (.iconst 1, 1) := by decide +kernel
theorem d_Processor_changeValue_107 : decode (rm_code mProcessor_changeValue) 107 = .ok (.ishr, 1) := by decide +kernel
theorem d_Processor_changeValue_108 : decode (rm_code mProcessor_changeValue) 108 = .ok (.istore_n 3, 1) := by decide +kernel
theorem d_Processor_changeValue_109 : decode (rm_code mProcessor_changeValue) 109 = .ok (.goto (71), 3) := by decide +kernel
theorem d_Processor_changeValue_112 : decode (rm_code mProcessor_changeValue) 112 = .ok (.aload_n 0, 1) := by decide +kernel
theorem d_Processor_changeValue_113 : decode (rm_code mProcessor_changeValue) 113 = .ok (.iconst 1, 1) := by decide +kernel
theorem d_Processor_changeValue_114 : decode (rm_code mProcessor_changeValue) 114 = .ok (.iload_n 3, 1) := by decide +kernel
theorem d_Processor_changeValue_115 : decode (rm_code mProcessor_changeValue) 115 = .ok (.sipush (128), 3) := by decide +kernel
theorem d_Processor_changeValue_118 : decode (rm_code mProcessor_changeValue) 118 = .ok (.iand, 1) := by decide +kernel
theorem d_Processor_changeValue_119 : decode (rm_code mProcessor_changeValue) 119 = .ok (.ifCond .eq (7), 3) := by decide +kernel
theorem d_Processor_changeValue_122 : decode (rm_code mProcessor_changeValue) 122 = .ok (.iconst 1, 1) := by decide +kernel
theorem d_Processor_changeValue_123 : decode (rm_code mProcessor_changeValue) 123 = .ok (.goto (4), 3) := by decide +kernel
theorem d_Processor_changeValue_126 : decode (rm_code mProcessor_changeValue) 126 = .ok (.iconst 0, 1) := by decide +kernel
theorem d_Processor_changeValue_127 : decode (rm_code mProcessor_changeValue) 127 = .ok (.invokevirtual 117, 3) := by decide +kernel
theorem d_Processor_changeValue_130 : decode (rm_code mProcessor_changeValue) 130 = .ok (.iload_n 3, 1) := by decide +kernel
theorem d_Processor_changeValue_131 : decode (rm_code mProcessor_changeValue) 131 = .ok (.iconst 1, 1) := by decide +kernel
theorem d_Processor_changeValue_132 : decode (rm_code mProcessor_changeValue) 132 = .ok (.ishl, 1) := by decide +kernel
theorem d_Processor_changeValue_133 : decode (rm_code mProcessor_changeValue) 133 = .ok (.iload 4, 2) := by decide +kernel
theorem d_Processor_changeValue_135 : decode (rm_code mProcessor_changeValue) 135 = .ok (.ior, 1) := by decide +kernel
theorem d_Processor_changeValue_136 : decode (rm_code mProcessor_changeValue) 136 = .ok (.istore_n 3, 1) := by decide +kernel
theorem d_Processor_changeValue_137 : decode (rm_code mProcessor_changeValue) 137 = .ok (.goto (43), 3) := by decide +kernel
theorem d_Processor_changeValue_140 : decode (rm_code mProcessor_changeValue) 140 = .ok (.aload_n 0, 1) := by decide +kernel
theorem d_Processor_changeValue_141 : decode (rm_code mProcessor_changeValue) 141 = .ok (.iconst 1, 1) := by decide +kernel
theorem d_Processor_changeValue_142 : decode (rm_code mProcessor_changeValue) 142 = .ok (.iload_n 3, 1) := by decide +kernel
theorem d_Processor_changeValue_143 : decode (rm_code mProcessor_changeValue) 143 = .ok (.iconst 1, 1) := by decide +kernel
theorem d_Processor_changeValue_144 : decode (rm_code mProcessor_changeValue) 144 = .ok (.iand, 1) := by decide +kernel
theorem d_Processor_changeValue_145 : decode (rm_code mProcessor_changeValue) 145 = .ok (.ifCond .eq (7), 3) := by decide +kernel
theorem d_Processor_changeValue_148 : decode (rm_code mProcessor_changeValue) 148 = .ok (.iconst 1, 1) := by decide +kernel
theorem d_Processor_changeValue_149 : decode (rm_code mProcessor_changeValue) 149 = .ok (.goto (4), 3) := by decide +kernel
theorem d_Processor_changeValue_152 : decode (rm_code mProcessor_changeValue) 152 = .ok (.iconst 0, 1) := by decide +kernel
theorem d_Processor_changeValue_153 : decode (rm_code mProcessor_changeValue) 153 = .ok (.invokevirtual 117, 3) := by decide +kernel
theorem d_Processor_changeValue_156 : decode (rm_code mProcessor_changeValue) 156 = .ok (.iload_n 3, 1) := by decide +kernel
theorem d_Processor_changeValue_157 : decode (rm_code mProcessor_changeValue) 157 = .ok (.iconst 1, 1) := by decide +kernel
theorem d_Processor_changeValue_158 : decode (rm_code mProcessor_changeValue) 158 = .ok (.ishr, 1) := by decide +kernel
theorem d_Processor_changeValue_159 : decode (rm_code mProcessor_changeValue) 159 = .ok (.iload 4, 2) := by decide +kernel
theorem d_Processor_changeValue_161 : decode (rm_code mProcessor_changeValue) 161 = .ok (.bipush (7), 2) := by decide +kernel
theorem d_Processor_changeValue_163 : decode (rm_code mProcessor_changeValue) 163 = .ok (.ishl, 1) := by decide +kernel
theorem d_Processor_changeValue_164 : decode (rm_code mProcessor_changeValue) 164 = .ok (.ior, 1) := by decide +kernel
theorem d_Processor_changeValue_165 : decode (rm_code mProcessor_changeValue) 165 = .ok (.istore_n 3, 1) := by decide +kernel
theorem d_Processor_changeValue_166 : decode (rm_code mProcessor_changeValue) 166 = .ok (.goto (14), 3) := by decide +kernel
theorem d_Processor_changeValue_169 : decode (rm_code mProcessor_changeValue) 169 = .ok (.iload_n 3, 1) := by decide +kernel
theorem d_Processor_changeValue_170 : decode (rm_code mProcessor_changeValue) 170 = .ok (.iconst 1, 1) := by decide +kernel
theorem d_Processor_changeValue_171 : decode (rm_code mProcessor_changeValue) 171 = .ok (.iadd, 1) := by decide +kernel
theorem d_Processor_changeValue_172 : decode (rm_code mProcessor_changeValue) 172 = .ok (.istore_n 3, 1) := by decide +kernel
theorem d_Processor_changeValue_173 : decode (rm_code mProcessor_changeValue) 173 = .ok (.goto (7), 3) := by decide +kernel
theorem d_Processor_changeValue_176 : decode (rm_code mProcessor_changeValue) 176 = .ok (.iload_n 3, 1) := by decide +kernel
theorem d_Processor_changeValue_177 : decode (rm_code mProcessor_changeValue) 177 = .ok (.iconst 1, 1) := by decide +kernel
theorem d_Processor_changeValue_178 : decode (rm_code mProcessor_changeValue) 178 = .ok (.isub, 1) := by decide +kernel
theorem d_Processor_changeValue_179 : decode (rm_code mProcessor_changeValue) 179 = .ok (.istore_n 3, 1) := by decide +kernel
theorem d_Processor_changeValue_180 : decode (rm_code mProcessor_changeValue) 180 = .ok (.aload_n 0, 1) := by decide +kernel
theorem d_Processor_changeValue_181 : decode (rm_code mProcessor_changeValue) 181 = .ok (.iload_n 3, 1) := by decide +kernel
theorem d_Processor_changeValue_182 : decode (rm_code mProcessor_changeValue) 182 = .ok (.invokevirtual 108, 3) := by decide +kernel
theorem d_Processor_changeValue_185 : decode (rm_code mProcessor_changeValue) 185 = .ok (.istore_n 3, 1) := by decide +kernel
theorem d_Processor_changeValue_186 : decode (rm_code mProcessor_changeValue) 186 = .ok (.iload_n 2, 1) := by decide +kernel
theorem d_Processor_changeValue_187 : decode (rm_code mProcessor_changeValue) 187 = .ok (.ifCond .eq (11), 3) := by decide +kernel
theorem d_Processor_changeValue_190 : decode (rm_code mProcessor_changeValue) 190 = .ok (.aload_n 0, 1) := by decide +kernel
theorem d_Processor_changeValue_191 : decode (rm_code mProcessor_changeValue) 191 = .ok (.iload_n 3, 1) := by decide +kernel
theorem d_Processor_changeValue_192 : decode (rm_code mProcessor_changeValue) 192 = .ok (.putfield 30, 3) := by decide +kernel
theorem d_Processor_changeValue_195 : decode (rm_code mProcessor_changeValue) 195 = .ok (.goto (12), 3) := by decide +kernel
theorem d_Processor_changeValue_198 : decode (rm_code mProcessor_changeValue) 198 = .ok (.aload_n 0, 1) := by decide +kernel
theorem d_Processor_changeValue_199 : decode (rm_code mProcessor_changeValue) 199 = .ok (.aload_n 0, 1) := by decide +kernel
theorem d_Processor_changeValue_200 : decode (rm_code mProcessor_changeValue) 200 = .ok (.getfield 69, 3) := by decide +kernel
theorem d_Processor_changeValue_203 : decode (rm_code mProcessor_changeValue) 203 = .ok (.iload_n 3, 1) := by decide +kernel
theorem d_Processor_changeValue_204 : decode (rm_code mProcessor_changeValue) 204 = .ok (.invokevirtual 75, 3) := by decide +kernel
theorem d_Processor_changeValue_207 : decode (rm_code mProcessor_changeValue) 207 = .ok (.return_, 1) := by decide +kernel
theorem p_Processor_changeValue_0 {S : rz_S} {K : rz_S → Prop} {a1 : Int32} {a2 : Int32} (w : ((a2 = 0 → rz_ev mProcessor_get [.ref 37, .int (S.2 37 8)] S (rz_i (fun xq2 Sq2 => rz mProcessor_changeValue 19 [(0, .ref 37), (1, .int a1), (2, .int a2)] [.int xq2] Sq2 (rz_v K)))) ∧ (¬ a2 = 0 → rz mProcessor_changeValue 19 [(0, .ref 37), (1, .int a1), (2, .int a2)] [.int (S.2 37 0)] S (rz_v K)))) : rz mProcessor_changeValue 0 [(0, .ref 37), (1, .int a1), (2, .int a2)] [] S (rz_v K) := by
  refine rz_pure (pc' := 1) d_Processor_changeValue_0 rfl ?_
  refine rz_ifeq (tgt := 11) d_Processor_changeValue_1 rfl (fun b1 => ?_) (fun b1 => ?_)
  · skip
    refine rz_pure (pc' := 12) d_Processor_changeValue_11 rfl ?_
    refine rz_pure (pc' := 13) d_Processor_changeValue_12 rfl ?_
    refine rz_getiv (v := S.2 37 8) d_Processor_changeValue_13 f_7_69 rfl rfl rfl ?_
    refine rz_callVi (t := [.int (S.2 37 8)]) d_Processor_changeValue_16 w_7_45 rfl rfl rfl (w.1 b1) (fun xq2 Sq2 q2 => ?_)
    exact rz_pick (ks := [0, 1, 2]) (l := [(0, .ref 37), (1, .int a1), (2, .int a2)]) rfl rfl (by decide) rfl q2
  · skip
    refine rz_pure (pc' := 5) d_Processor_changeValue_4 rfl ?_
    refine rz_getiv (v := S.2 37 0) d_Processor_changeValue_5 f_7_30 rfl rfl rfl ?_
    refine rz_pure (pc' := 19) d_Processor_changeValue_8 rfl ?_
    exact rz_pick (ks := [0, 1, 2]) (l := [(0, .ref 37), (1, .int a1), (2, .int a2)]) rfl rfl (by decide) rfl (w.2 b1)
theorem p_Processor_changeValue_19 {S : rz_S} {K : rz_S → Prop} {a1 : Int32} {a2 : Int32} {s0 : Int32} (w : ((a1.toInt < 16 ∨ 20 < a1.toInt → rz mProcessor_changeValue 180 [(0, .ref 37), (2, .int a2), (3, .int (s0 - 1))] [] S (rz_v K)) ∧ (a1 = 16 → ((s0 &&& 128 = 0 → rz mProcessor_changeValue 79 [(0, .ref 37), (2, .int a2), (3, .int s0)] [.int 0, .int 1, .ref 37] S (rz_v K)) ∧ (¬ s0 &&& 128 = 0 → rz mProcessor_changeValue 79 [(0, .ref 37), (2, .int a2), (3, .int s0)] [.int 1, .int 1, .ref 37] S (rz_v K)))) ∧ (a1 = 17 → ((s0 &&& 1 = 0 → rz mProcessor_changeValue 102 [(0, .ref 37), (2, .int a2), (3, .int s0)] [.int 0, .int 1, .ref 37] S (rz_v K)) ∧ (¬ s0 &&& 1 = 0 → rz mProcessor_changeValue 102 [(0, .ref 37), (2, .int a2), (3, .int s0)] [.int 1, .int 1, .ref 37] S (rz_v K)))) ∧ (a1 = 18 → ((s0 &&& 128 = 0 → rz mProcessor_changeValue 127 [(0, .ref 37), (2, .int a2), (3, .int s0), (4, .int ((S.2 37 4) &&& 1))] [.int 0, .int 1, .ref 37] S (rz_v K)) ∧ (¬ s0 &&& 128 = 0 → rz mProcessor_changeValue 127 [(0, .ref 37), (2, .int a2), (3, .int s0), (4, .int ((S.2 37 4) &&& 1))] [.int 1, .int 1, .ref 37] S (rz_v K)))) ∧ (a1 = 19 → ((s0 &&& 1 = 0 → rz mProcessor_changeValue 153 [(0, .ref 37), (2, .int a2), (3, .int s0), (4, .int ((S.2 37 4) &&& 1))] [.int 0, .int 1, .ref 37] S (rz_v K)) ∧ (¬ s0 &&& 1 = 0 → rz mProcessor_changeValue 153 [(0, .ref 37), (2, .int a2), (3, .int s0), (4, .int ((S.2 37 4) &&& 1))] [.int 1, .int 1, .ref 37] S (rz_v K)))) ∧ (a1 = 20 → rz mProcessor_changeValue 180 [(0, .ref 37), (2, .int a2), (3, .int (s0 + 1))] [] S (rz_v K)))) : rz mProcessor_changeValue 19 [(0, .ref 37), (1, .int a1), (2, .int a2)] [.int s0] S (rz_v K) := by
  refine rz_pure (pc' := 20) (l' := [(3, .int s0), (0, .ref 37), (1, .int a1), (2, .int a2)]) d_Processor_changeValue_19 rfl ?_
  refine rz_pure (pc' := 21) d_Processor_changeValue_20 rfl ?_
  refine rz_getiv (v := S.2 37 4) d_Processor_changeValue_21 f_7_27 rfl rfl rfl ?_
  refine rz_iconst (v := 1) d_Processor_changeValue_24 (by decide) ?_
  refine rz_iand d_Processor_changeValue_25 ?_
  refine rz_pure (pc' := 28) (l' := [(4, .int ((S.2 37 4) &&& 1)), (3, .int s0), (0, .ref 37), (1, .int a1), (2, .int a2)]) d_Processor_changeValue_26 rfl ?_
  refine rz_pure (pc' := 29) d_Processor_changeValue_28 rfl ?_
  refine rz_tsw (n := 5) (lo := 16) (tgt := 176) d_Processor_changeValue_29 rfl rfl (fun b0 => ?_) (fun j hj hx => ?_)
  · skip
    refine rz_pure (pc' := 177) d_Processor_changeValue_176 rfl ?_
    refine rz_iconst (v := 1) d_Processor_changeValue_177 (by decide) ?_
    refine rz_isub d_Processor_changeValue_178 ?_
    refine rz_pure (pc' := 180) (l' := [(3, .int (s0 - 1)), (4, .int ((S.2 37 4) &&& 1)), (0, .ref 37), (1, .int a1), (2, .int a2)]) d_Processor_changeValue_179 rfl ?_
    exact rz_pick (ks := [0, 2, 3]) (l := [(0, .ref 37), (2, .int a2), (3, .int (s0 - 1))]) rfl rfl (by decide) rfl (w.1 b0)
  · match j, hj with
    | 0, _ =>
      replace hx := hx.trans (show Int32.ofInt ((16 : Int) + ((0 : Nat) : Int)) = 16 from by decide)
      refine rz_tsj (tgt := 64) d_Processor_changeValue_29 hx rfl ?_
      refine rz_pure (pc' := 65) d_Processor_changeValue_64 rfl ?_
      refine rz_iconst (v := 1) d_Processor_changeValue_65 (by decide) ?_
      refine rz_pure (pc' := 67) d_Processor_changeValue_66 rfl ?_
      refine rz_sipush (v := 128) d_Processor_changeValue_67 (by decide) ?_
      refine rz_iand d_Processor_changeValue_70 ?_
      refine rz_ifeq (tgt := 78) d_Processor_changeValue_71 rfl (fun b1 => ?_) (fun b1 => ?_)
      · skip
        refine rz_iconst (v := 0) d_Processor_changeValue_78 (by decide) ?_
        exact rz_pick (ks := [0, 2, 3]) (l := [(0, .ref 37), (2, .int a2), (3, .int s0)]) rfl rfl (by decide) rfl ((w.2.1 hx).1 b1)
      · skip
        refine rz_iconst (v := 1) d_Processor_changeValue_74 (by decide) ?_
        refine rz_pure (pc' := 79) d_Processor_changeValue_75 rfl ?_
        exact rz_pick (ks := [0, 2, 3]) (l := [(0, .ref 37), (2, .int a2), (3, .int s0)]) rfl rfl (by decide) rfl ((w.2.1 hx).2 b1)
    | 1, _ =>
      replace hx := hx.trans (show Int32.ofInt ((16 : Int) + ((1 : Nat) : Int)) = 17 from by decide)
      refine rz_tsj (tgt := 89) d_Processor_changeValue_29 hx rfl ?_
      refine rz_pure (pc' := 90) d_Processor_changeValue_89 rfl ?_
      refine rz_iconst (v := 1) d_Processor_changeValue_90 (by decide) ?_
      refine rz_pure (pc' := 92) d_Processor_changeValue_91 rfl ?_
      refine rz_iconst (v := 1) d_Processor_changeValue_92 (by decide) ?_
      refine rz_iand d_Processor_changeValue_93 ?_
      refine rz_ifeq (tgt := 101) d_Processor_changeValue_94 rfl (fun b2 => ?_) (fun b2 => ?_)
      · skip
        refine rz_iconst (v := 0) d_Processor_changeValue_101 (by decide) ?_
        exact rz_pick (ks := [0, 2, 3]) (l := [(0, .ref 37), (2, .int a2), (3, .int s0)]) rfl rfl (by decide) rfl ((w.2.2.1 hx).1 b2)
      · skip
        refine rz_iconst (v := 1) d_Processor_changeValue_97 (by decide) ?_
        refine rz_pure (pc' := 102) d_Processor_changeValue_98 rfl ?_
        exact rz_pick (ks := [0, 2, 3]) (l := [(0, .ref 37), (2, .int a2), (3, .int s0)]) rfl rfl (by decide) rfl ((w.2.2.1 hx).2 b2)
    | 2, _ =>
      replace hx := hx.trans (show Int32.ofInt ((16 : Int) + ((2 : Nat) : Int)) = 18 from by decide)
      refine rz_tsj (tgt := 112) d_Processor_changeValue_29 hx rfl ?_
      refine rz_pure (pc' := 113) d_Processor_changeValue_112 rfl ?_
      refine rz_iconst (v := 1) d_Processor_changeValue_113 (by decide) ?_
      refine rz_pure (pc' := 115) d_Processor_changeValue_114 rfl ?_
      refine rz_sipush (v := 128) d_Processor_changeValue_115 (by decide) ?_
      refine rz_iand d_Processor_changeValue_118 ?_
      refine rz_ifeq (tgt := 126) d_Processor_changeValue_119 rfl (fun b3 => ?_) (fun b3 => ?_)
      · skip
        refine rz_iconst (v := 0) d_Processor_changeValue_126 (by decide) ?_
        exact rz_pick (ks := [0, 2, 3, 4]) (l := [(0, .ref 37), (2, .int a2), (3, .int s0), (4, .int ((S.2 37 4) &&& 1))]) rfl rfl (by decide) rfl ((w.2.2.2.1 hx).1 b3)
      · skip
        refine rz_iconst (v := 1) d_Processor_changeValue_122 (by decide) ?_
        refine rz_pure (pc' := 127) d_Processor_changeValue_123 rfl ?_
        exact rz_pick (ks := [0, 2, 3, 4]) (l := [(0, .ref 37), (2, .int a2), (3, .int s0), (4, .int ((S.2 37 4) &&& 1))]) rfl rfl (by decide) rfl ((w.2.2.2.1 hx).2 b3)
    | 3, _ =>
      replace hx := hx.trans (show Int32.ofInt ((16 : Int) + ((3 : Nat) : Int)) = 19 from by decide)
      refine rz_tsj (tgt := 140) d_Processor_changeValue_29 hx rfl ?_
      refine rz_pure (pc' := 141) d_Processor_changeValue_140 rfl ?_
      refine rz_iconst (v := 1) d_Processor_changeValue_141 (by decide) ?_
      refine rz_pure (pc' := 143) d_Processor_changeValue_142 rfl ?_
      refine rz_iconst (v := 1) d_Processor_changeValue_143 (by decide) ?_
      refine rz_iand d_Processor_changeValue_144 ?_
      refine rz_ifeq (tgt := 152) d_Processor_changeValue_145 rfl (fun b4 => ?_) (fun b4 => ?_)
      · skip
        refine rz_iconst (v := 0) d_Processor_changeValue_152 (by decide) ?_
        exact rz_pick (ks := [0, 2, 3, 4]) (l := [(0, .ref 37), (2, .int a2), (3, .int s0), (4, .int ((S.2 37 4) &&& 1))]) rfl rfl (by decide) rfl ((w.2.2.2.2.1 hx).1 b4)
      · skip
        refine rz_iconst (v := 1) d_Processor_changeValue_148 (by decide) ?_
        refine rz_pure (pc' := 153) d_Processor_changeValue_149 rfl ?_
        exact rz_pick (ks := [0, 2, 3, 4]) (l := [(0, .ref 37), (2, .int a2), (3, .int s0), (4, .int ((S.2 37 4) &&& 1))]) rfl rfl (by decide) rfl ((w.2.2.2.2.1 hx).2 b4)
    | 4, _ =>
      replace hx := hx.trans (show Int32.ofInt ((16 : Int) + ((4 : Nat) : Int)) = 20 from by decide)
      refine rz_tsj (tgt := 169) d_Processor_changeValue_29 hx rfl ?_
      refine rz_pure (pc' := 170) d_Processor_changeValue_169 rfl ?_
      refine rz_iconst (v := 1) d_Processor_changeValue_170 (by decide) ?_
      refine rz_iadd d_Processor_changeValue_171 ?_
      refine rz_pure (pc' := 173) (l' := [(3, .int (s0 + 1)), (4, .int ((S.2 37 4) &&& 1)), (0, .ref 37), (1, .int a1), (2, .int a2)]) d_Processor_changeValue_172 rfl ?_
      refine rz_pure (pc' := 180) d_Processor_changeValue_173 rfl ?_
      exact rz_pick (ks := [0, 2, 3]) (l := [(0, .ref 37), (2, .int a2), (3, .int (s0 + 1))]) rfl rfl (by decide) rfl (w.2.2.2.2.2 hx)
    | j + 5, h => exact absurd h (by omega)
theorem p_Processor_changeValue_180 {S : rz_S} {K : rz_S → Prop} {a2 : Int32} {a3 : Int32} (w : rz_ev mProcessor_marked [.ref 37, .int a3] S (rz_i (fun xq1 Sq1 => ((a2 = 0 → rz_ev mProcessor_set [.ref 37, .int (Sq1.2 37 8), .int xq1] Sq1 (rz_v (fun Sq3 => K Sq3))) ∧ (¬ a2 = 0 → K (rz_uI Sq1 37 0 xq1)))))) : rz mProcessor_changeValue 180 [(0, .ref 37), (2, .int a2), (3, .int a3)] [] S (rz_v K) := by
  refine rz_pure (pc' := 181) d_Processor_changeValue_180 rfl ?_
  refine rz_pure (pc' := 182) d_Processor_changeValue_181 rfl ?_
  refine rz_callVi (t := [.int a3]) d_Processor_changeValue_182 w_7_108 rfl rfl rfl w (fun xq1 Sq1 q1 => ?_)
  refine rz_pure (pc' := 186) (l' := [(3, .int xq1), (0, .ref 37), (2, .int a2)]) d_Processor_changeValue_185 rfl ?_
  refine rz_pure (pc' := 187) d_Processor_changeValue_186 rfl ?_
  refine rz_ifeq (tgt := 198) d_Processor_changeValue_187 rfl (fun b2 => ?_) (fun b2 => ?_)
  · skip
    refine rz_pure (pc' := 199) d_Processor_changeValue_198 rfl ?_
    refine rz_pure (pc' := 200) d_Processor_changeValue_199 rfl ?_
    refine rz_getiv (v := Sq1.2 37 8) d_Processor_changeValue_200 f_7_69 rfl rfl rfl ?_
    refine rz_pure (pc' := 204) d_Processor_changeValue_203 rfl ?_
    refine rz_callVv (t := [.int xq1, .int (Sq1.2 37 8)]) d_Processor_changeValue_204 w_7_75 rfl rfl rfl (q1.1 b2) (fun Sq3 q3 => ?_)
    exact rz_vretv d_Processor_changeValue_207 rfl q3
  · skip
    refine rz_pure (pc' := 191) d_Processor_changeValue_190 rfl ?_
    refine rz_pure (pc' := 192) d_Processor_changeValue_191 rfl ?_
    refine rz_puti d_Processor_changeValue_192 f_7_30 rfl rfl rfl ?_
    refine rz_pure (pc' := 207) d_Processor_changeValue_195 rfl ?_
    exact rz_vretv d_Processor_changeValue_207 rfl (q1.2 b2)
theorem p_Processor_changeValue_79 {S : rz_S} {K : rz_S → Prop} {a2 : Int32} {a3 : Int32} {s0 : Int32} {s1 : Int32} (w : rz_ev mProcessor_flag [.ref 37, .int s1, .int s0] S (rz_v (fun Sq1 => rz mProcessor_changeValue 180 [(0, .ref 37), (2, .int a2), (3, .int (a3 <<< ((1 : Int32) &&& 31)))] [] Sq1 (rz_v K)))) : rz mProcessor_changeValue 79 [(0, .ref 37), (2, .int a2), (3, .int a3)] [.int s0, .int s1, .ref 37] S (rz_v K) := by
  refine rz_callVv (t := [.int s0, .int s1]) d_Processor_changeValue_79 w_7_117 rfl rfl rfl w (fun Sq1 q1 => ?_)
  refine rz_pure (pc' := 83) d_Processor_changeValue_82 rfl ?_
  refine rz_iconst (v := 1) d_Processor_changeValue_83 (by decide) ?_
  refine rz_ishl d_Processor_changeValue_84 ?_
  refine rz_pure (pc' := 86) (l' := [(3, .int (a3 <<< ((1 : Int32) &&& 31))), (0, .ref 37), (2, .int a2)]) d_Processor_changeValue_85 rfl ?_
  refine rz_pure (pc' := 180) d_Processor_changeValue_86 rfl ?_
  exact rz_pick (ks := [0, 2, 3]) (l := [(0, .ref 37), (2, .int a2), (3, .int (a3 <<< ((1 : Int32) &&& 31)))]) rfl rfl (by decide) rfl q1
theorem p_Processor_changeValue_102 {S : rz_S} {K : rz_S → Prop} {a2 : Int32} {a3 : Int32} {s0 : Int32} {s1 : Int32} (w : rz_ev mProcessor_flag [.ref 37, .int s1, .int s0] S (rz_v (fun Sq1 => rz mProcessor_changeValue 180 [(0, .ref 37), (2, .int a2), (3, .int (a3 >>> ((1 : Int32) &&& 31)))] [] Sq1 (rz_v K)))) : rz mProcessor_changeValue 102 [(0, .ref 37), (2, .int a2), (3, .int a3)] [.int s0, .int s1, .ref 37] S (rz_v K) := by
  refine rz_callVv (t := [.int s0, .int s1]) d_Processor_changeValue_102 w_7_117 rfl rfl rfl w (fun Sq1 q1 => ?_)
  refine rz_pure (pc' := 106) d_Processor_changeValue_105 rfl ?_
  refine rz_iconst (v := 1) d_Processor_changeValue_106 (by decide) ?_
  refine rz_ishr d_Processor_changeValue_107 ?_
  refine rz_pure (pc' := 109) (l' := [(3, .int (a3 >>> ((1 : Int32) &&& 31))), (0, .ref 37), (2, .int a2)]) d_Processor_changeValue_108 rfl ?_
  refine rz_pure (pc' := 180) d_Processor_changeValue_109 rfl ?_
  exact rz_pick (ks := [0, 2, 3]) (l := [(0, .ref 37), (2, .int a2), (3, .int (a3 >>> ((1 : Int32) &&& 31)))]) rfl rfl (by decide) rfl q1
theorem p_Processor_changeValue_127 {S : rz_S} {K : rz_S → Prop} {a2 : Int32} {a3 : Int32} {a4 : Int32} {s0 : Int32} {s1 : Int32} (w : rz_ev mProcessor_flag [.ref 37, .int s1, .int s0] S (rz_v (fun Sq1 => rz mProcessor_changeValue 180 [(0, .ref 37), (2, .int a2), (3, .int ((a3 <<< ((1 : Int32) &&& 31)) ||| a4))] [] Sq1 (rz_v K)))) : rz mProcessor_changeValue 127 [(0, .ref 37), (2, .int a2), (3, .int a3), (4, .int a4)] [.int s0, .int s1, .ref 37] S (rz_v K) := by
  refine rz_callVv (t := [.int s0, .int s1]) d_Processor_changeValue_127 w_7_117 rfl rfl rfl w (fun Sq1 q1 => ?_)
  refine rz_pure (pc' := 131) d_Processor_changeValue_130 rfl ?_
  refine rz_iconst (v := 1) d_Processor_changeValue_131 (by decide) ?_
  refine rz_ishl d_Processor_changeValue_132 ?_
  refine rz_pure (pc' := 135) d_Processor_changeValue_133 rfl ?_
  refine rz_ior d_Processor_changeValue_135 ?_
  refine rz_pure (pc' := 137) (l' := [(3, .int ((a3 <<< ((1 : Int32) &&& 31)) ||| a4)), (0, .ref 37), (2, .int a2), (4, .int a4)]) d_Processor_changeValue_136 rfl ?_
  refine rz_pure (pc' := 180) d_Processor_changeValue_137 rfl ?_
  exact rz_pick (ks := [0, 2, 3]) (l := [(0, .ref 37), (2, .int a2), (3, .int ((a3 <<< ((1 : Int32) &&& 31)) ||| a4))]) rfl rfl (by decide) rfl q1
theorem p_Processor_changeValue_153 {S : rz_S} {K : rz_S → Prop} {a2 : Int32} {a3 : Int32} {a4 : Int32} {s0 : Int32} {s1 : Int32} (w : rz_ev mProcessor_flag [.ref 37, .int s1, .int s0] S (rz_v (fun Sq1 => rz mProcessor_changeValue 180 [(0, .ref 37), (2, .int a2), (3, .int ((a3 >>> ((1 : Int32) &&& 31)) ||| (a4 <<< ((7 : Int32) &&& 31))))] [] Sq1 (rz_v K)))) : rz mProcessor_changeValue 153 [(0, .ref 37), (2, .int a2), (3, .int a3), (4, .int a4)] [.int s0, .int s1, .ref 37] S (rz_v K) := by
  refine rz_callVv (t := [.int s0, .int s1]) d_Processor_changeValue_153 w_7_117 rfl rfl rfl w (fun Sq1 q1 => ?_)
  refine rz_pure (pc' := 157) d_Processor_changeValue_156 rfl ?_
  refine rz_iconst (v := 1) d_Processor_changeValue_157 (by decide) ?_
  refine rz_ishr d_Processor_changeValue_158 ?_
  refine rz_pure (pc' := 161) d_Processor_changeValue_159 rfl ?_
  refine rz_bipush (v := 7) d_Processor_changeValue_161 (by decide) ?_
  refine rz_ishl d_Processor_changeValue_163 ?_
  refine rz_ior d_Processor_changeValue_164 ?_
  refine rz_pure (pc' := 166) (l' := [(3, .int ((a3 >>> ((1 : Int32) &&& 31)) ||| (a4 <<< ((7 : Int32) &&& 31)))), (0, .ref 37), (2, .int a2), (4, .int a4)]) d_Processor_changeValue_165 rfl ?_
  refine rz_pure (pc' := 180) d_Processor_changeValue_166 rfl ?_
  exact rz_pick (ks := [0, 2, 3]) (l := [(0, .ref 37), (2, .int a2), (3, .int ((a3 >>> ((1 : Int32) &&& 31)) ||| (a4 <<< ((7 : Int32) &&& 31))))]) rfl rfl (by decide) rfl q1
theorem d_Processor_branch_0 : decode (rm_code mProcessor_branch) 0 = .ok (.iload_n 1, 1) := by decide +kernel
theorem d_Processor_branch_1 : decode (rm_code mProcessor_branch) 1 = .ok (.tableswitch (144) (22) (28) #[(43), (62), (73), (91), (101), (118), (127)], 43) := by decide +kernel
theorem d_Processor_branch_44 : decode (rm_code mProcessor_branch) 44 = .ok (.aload_n 0, 1) := by decide +kernel
theorem d_Processor_branch_45 : decode (rm_code mProcessor_branch) 45 = .ok (.sipush (128), 3) := by decide +kernel
theorem d_Processor_branch_48 : decode (rm_code mProcessor_branch) 48 = .ok (.invokevirtual 123, 3) := by decide +kernel
theorem d_Processor_branch_51 : decode (rm_code mProcessor_branch) 51 = .ok (.ifCond .ne (7), 3) := by decide +kernel
theorem d_Processor_branch_54 : decode (rm_code mProcessor_branch) 54 = .ok (.iconst 1, 1) := by decide +kernel
theorem d_Processor_branch_55 : decode (rm_code mProcessor_branch) 55 = .ok (.goto (4), 3) := by decide +kernel
theorem d_Processor_branch_58 : decode (rm_code mProcessor_branch) 58 = .ok (.iconst 0, 1) := by decide +kernel
theorem d_Processor_branch_59 : decode (rm_code mProcessor_branch) 59 = .ok (.istore_n 2, 1) := by decide +kernel
theorem d_Processor_branch_60 : decode (rm_code mProcessor_branch) 60 = .ok (.goto (91), 3) := by decide +kernel
theorem d_Processor_branch_63 : decode (rm_code mProcessor_branch) 63 = .ok (.aload_n 0, 1) := by decide +kernel
theorem d_Processor_branch_64 : decode (rm_code mProcessor_branch) 64 = .ok (.sipush (128), 3) := by decide +kernel
theorem d_Processor_branch_67 : decode (rm_code mProcessor_branch) 67 = .ok (.invokevirtual 123, 3) := by decide +kernel
theorem d_Processor_branch_70 : decode (rm_code mProcessor_branch) 70 = .ok (.istore_n 2, 1) := by decide +kernel
theorem d_Processor_branch_71 : decode (rm_code mProcessor_branch) 71 = .ok (.goto (80), 3) := by decide +kernel
theorem d_Processor_branch_74 : decode (rm_code mProcessor_branch) 74 = .ok (.aload_n 0, 1) := by decide +kernel
theorem d_Processor_branch_75 : decode (rm_code mProcessor_branch) 75 = .ok (.bipush (64), 2) := by decide +kernel
theorem d_Processor_branch_77 : decode (rm_code mProcessor_branch) 77 = .ok (.invokevirtual 123, 3) := by decide +kernel
theorem d_Processor_branch_80 : decode (rm_code mProcessor_branch) 80 = .ok (.ifCond .ne (7), 3) := by decide +kernel
theorem d_Processor_branch_83 : decode (rm_code mProcessor_branch) 83 = .ok (.iconst 1, 1) := by decide +kernel
theorem d_Processor_branch_84 : decode (rm_code mProcessor_branch) 84 = .ok (.goto (4), 3) := by decide +kernel
theorem d_Processor_branch_87 : decode (rm_code mProcessor_branch) 87 = .ok (.iconst 0, 1) := by decide +kernel
theorem d_Processor_branch_88 : decode (rm_code mProcessor_branch) 88 = .ok (.istore_n 2, 1) := by decide +kernel
theorem d_Processor_branch_89 : decode (rm_code mProcessor_branch) 89 = .ok (.goto (62), 3) := by decide +kernel
theorem d_Processor_branch_92 : decode (rm_code mProcessor_branch) 92 = .ok (.aload_n 0, 1) := by decide +kernel
theorem d_Processor_branch_93 : decode (rm_code mProcessor_branch) 93 = .ok (.bipush (64), 2) := by decide +kernel
theorem d_Processor_branch_95 : decode (rm_code mProcessor_branch) 95 = .ok (.invokevirtual 123, 3) := by decide +kernel
theorem d_Processor_branch_98 : decode (rm_code mProcessor_branch) 98 = .ok (.istore_n 2, 1) := by decide +kernel
theorem d_Processor_branch_99 : decode (rm_code mProcessor_branch) 99 = .ok (.goto (52), 3) := by decide +kernel
theorem d_Processor_branch_102 : decode (rm_code mProcessor_branch) 102 = .ok (.aload_n 0, 1) := by decide +kernel
theorem d_Processor_branch_103 : decode (rm_code mProcessor_branch) 103 = .ok (.iconst 1, 1) := by decide +kernel
theorem d_Processor_branch_104 : decode (rm_code mProcessor_branch) 104 = .ok (.invokevirtual 123, 3) := by decide +kernel
theorem d_Processor_branch_107 : decode (rm_code mProcessor_branch) 107 = .ok (.ifCond .ne (7), 3) := by decide +kernel
theorem d_Processor_branch_110 : decode (rm_code mProcessor_branch) 110 = .ok (.iconst 1, 1) := by decide +kernel
theorem d_Processor_branch_111 : decode (rm_code mProcessor_branch) 111 = .ok (.goto (4), 3) := by decide +kernel
theorem d_Processor_branch_114 : decode (rm_code mProcessor_branch) 114 = .ok (.iconst 0, 1) := by decide +kernel
theorem d_Processor_branch_115 : decode (rm_code mProcessor_branch) 115 = .ok (.istore_n 2, 1) := by decide +kernel
theorem d_Processor_branch_116 : decode (rm_code mProcessor_branch) 116 = .ok (.goto (35), 3) := by decide +kernel
theorem d_Processor_branch_119 : decode (rm_code mProcessor_branch) 119 = .ok (.aload_n 0, 1) := by decide +kernel
theorem d_Processor_branch_120 : decode (rm_code mProcessor_branch) 120 = .ok (.iconst 1, 1) := by decide +kernel
theorem d_Processor_branch_121 : decode (rm_code mProcessor_branch) 121 = .ok (.invokevirtual 123, 3) := by decide +kernel
theorem d_Processor_branch_124 : decode (rm_code mProcessor_branch) 124 = .ok (.istore_n 2, 1) := by decide +kernel
theorem d_Processor_branch_125 : decode (rm_code mProcessor_branch) 125 = .ok (.goto (26), 3) := by decide +kernel
theorem d_Processor_branch_128 : decode (rm_code mProcessor_branch) 128 = .ok (.aload_n 0, 1) := by decide +kernel
theorem d_Processor_branch_129 : decode (rm_code mProcessor_branch) 129 = .ok (.iconst 2, 1) := by decide +kernel
theorem d_Processor_branch_130 : decode (rm_code mProcessor_branch) 130 = .ok (.invokevirtual 123, 3) := by decide +kernel
theorem d_Processor_branch_133 : decode (rm_code mProcessor_branch) 133 = .ok (.ifCond .ne (7), 3) := by decide +kernel
theorem d_Processor_branch_136 : decode (rm_code mProcessor_branch) 136 = .ok (.iconst 1, 1) := by decide +kernel
theorem d_Processor_branch_137 : decode (rm_code mProcessor_branch) 137 = .ok (.goto (4), 3) := by decide +kernel
theorem d_Processor_branch_140 : decode (rm_code mProcessor_branch) 140 = .ok (.iconst 0, 1) := by decide +kernel
theorem d_Processor_branch_141 : decode (rm_code mProcessor_branch) 141 = .ok (.istore_n 2, 1) := by decide +kernel
theorem d_Processor_branch_142 : decode (rm_code mProcessor_branch) 142 = .ok (.goto (9), 3) := by decide +kernel
theorem d_Processor_branch_145 : decode (rm_code mProcessor_branch) 145 = .ok (.aload_n 0, 1) := by decide +kernel
theorem d_Processor_branch_146 : decode (rm_code mProcessor_branch) 146 = .ok (.iconst 2, 1) := by decide +kernel
theorem d_Processor_branch_147 : decode (rm_code mProcessor_branch) 147 = .ok (.invokevirtual 123, 3) := by decide +kernel
theorem d_Processor_branch_150 : decode (rm_code mProcessor_branch) 150 = .ok (.istore_n 2, 1) := by decide +kernel
theorem d_Processor_branch_151 : decode (rm_code mProcessor_branch) 151 = .ok (.iload_n 2, 1) := by decide +kernel
theorem d_Processor_branch_152 : decode (rm_code mProcessor_branch) 152 = .ok (.ifCond .eq (36), 3) := by decide +kernel
theorem d_Processor_branch_155 : decode (rm_code mProcessor_branch) 155 = .ok (.aload_n 0, 1) := by decide +kernel
theorem d_Processor_branch_156 : decode (rm_code mProcessor_branch) 156 = .ok (.dup, 1) := by decide +kernel
theorem d_Processor_branch_157 : decode (rm_code mProcessor_branch) 157 = .ok (.getfield 42, 3) := by decide +kernel
theorem d_Processor_branch_160 : decode (rm_code mProcessor_branch) 160 = .ok (.aload_n 0, 1) := by decide +kernel
theorem d_Processor_branch_161 : decode (rm_code mProcessor_branch) 161 = .ok (.getfield 65, 3) := by decide +kernel
theorem d_Processor_branch_164 : decode (rm_code mProcessor_branch) 164 = .ok (.ifCond .eq (7), 3) := by decide +kernel
theorem d_Processor_branch_167 : decode (rm_code mProcessor_branch) 167 = .ok (.iconst 2, 1) := by decide +kernel
theorem d_Processor_branch_168 : decode (rm_code mProcessor_branch) 168 = .ok (.goto (4), 3) := by decide +kernel
theorem d_Processor_branch_171 : decode (rm_code mProcessor_branch) 171 = .ok (.iconst 1, 1) := by decide +kernel
theorem d_Processor_branch_172 : decode (rm_code mProcessor_branch) 172 = .ok (.iadd, 1) := by decide +kernel
theorem d_Processor_branch_173 : decode (rm_code mProcessor_branch) 173 = .ok (.putfield 42, 3) := by decide +kernel
theorem d_Processor_branch_176 : decode (rm_code mProcessor_branch) 176 = .ok (.aload_n 0, 1) := by decide +kernel
theorem d_Processor_branch_177 : decode (rm_code mProcessor_branch) 177 = .ok (.aload_n 0, 1) := by decide +kernel
theorem d_Processor_branch_178 : decode (rm_code mProcessor_branch) 178 = .ok (.getfield 69, 3) := by decide +kernel
theorem d_Processor_branch_181 : decode (rm_code mProcessor_branch) 181 = .ok (.sipush (2047), 3) := by decide +kernel
theorem d_Processor_branch_184 : decode (rm_code mProcessor_branch) 184 = .ok (.iand, 1) := by decide +kernel
theorem d_Processor_branch_185 : decode (rm_code mProcessor_branch) 185 = .ok (.putfield 39, 3) := by decide +kernel
theorem d_Processor_branch_188 : decode (rm_code mProcessor_branch) 188 = .ok (.return_, 1) := by decide +kernel
theorem p_Processor_branch_0 {S : rz_S} {K : rz_S → Prop} {a1 : Int32} (w : ((a1.toInt < 22 ∨ 28 < a1.toInt → rz_ev mProcessor_has [.ref 37, .int 2] S (rz_i (fun xq1 Sq1 => rz mProcessor_branch 151 [(0, .ref 37), (2, .int xq1)] [] Sq1 (rz_v K)))) ∧ (a1 = 22 → rz_ev mProcessor_has [.ref 37, .int 128] S (rz_i (fun xq2 Sq2 => ((xq2 = 0 → rz mProcessor_branch 59 [(0, .ref 37)] [.int 1] Sq2 (rz_v K)) ∧ (¬ xq2 = 0 → rz mProcessor_branch 59 [(0, .ref 37)] [.int 0] Sq2 (rz_v K)))))) ∧ (a1 = 23 → rz_ev mProcessor_has [.ref 37, .int 128] S (rz_i (fun xq4 Sq4 => rz mProcessor_branch 151 [(0, .ref 37), (2, .int xq4)] [] Sq4 (rz_v K)))) ∧ (a1 = 24 → rz_ev mProcessor_has [.ref 37, .int 64] S (rz_i (fun xq5 Sq5 => ((xq5 = 0 → rz mProcessor_branch 88 [(0, .ref 37)] [.int 1] Sq5 (rz_v K)) ∧ (¬ xq5 = 0 → rz mProcessor_branch 88 [(0, .ref 37)] [.int 0] Sq5 (rz_v K)))))) ∧ (a1 = 25 → rz_ev mProcessor_has [.ref 37, .int 64] S (rz_i (fun xq7 Sq7 => rz mProcessor_branch 151 [(0, .ref 37), (2, .int xq7)] [] Sq7 (rz_v K)))) ∧ (a1 = 26 → rz_ev mProcessor_has [.ref 37, .int 1] S (rz_i (fun xq8 Sq8 => ((xq8 = 0 → rz mProcessor_branch 115 [(0, .ref 37)] [.int 1] Sq8 (rz_v K)) ∧ (¬ xq8 = 0 → rz mProcessor_branch 115 [(0, .ref 37)] [.int 0] Sq8 (rz_v K)))))) ∧ (a1 = 27 → rz_ev mProcessor_has [.ref 37, .int 1] S (rz_i (fun xq10 Sq10 => rz mProcessor_branch 151 [(0, .ref 37), (2, .int xq10)] [] Sq10 (rz_v K)))) ∧ (a1 = 28 → rz_ev mProcessor_has [.ref 37, .int 2] S (rz_i (fun xq11 Sq11 => ((xq11 = 0 → rz mProcessor_branch 141 [(0, .ref 37)] [.int 1] Sq11 (rz_v K)) ∧ (¬ xq11 = 0 → rz mProcessor_branch 141 [(0, .ref 37)] [.int 0] Sq11 (rz_v K)))))))) : rz mProcessor_branch 0 [(0, .ref 37), (1, .int a1)] [] S (rz_v K) := by
  refine rz_pure (pc' := 1) d_Processor_branch_0 rfl ?_
  refine rz_tsw (n := 7) (lo := 22) (tgt := 145) d_Processor_branch_1 rfl rfl (fun b0 => ?_) (fun j hj hx => ?_)
  · skip
    refine rz_pure (pc' := 146) d_Processor_branch_145 rfl ?_
    refine rz_iconst (v := 2) d_Processor_branch_146 (by decide) ?_
    refine rz_callVi (t := [.int 2]) d_Processor_branch_147 w_7_123 rfl rfl rfl (w.1 b0) (fun xq1 Sq1 q1 => ?_)
    refine rz_pure (pc' := 151) (l' := [(2, .int xq1), (0, .ref 37), (1, .int a1)]) d_Processor_branch_150 rfl ?_
    exact rz_pick (ks := [0, 2]) (l := [(0, .ref 37), (2, .int xq1)]) rfl rfl (by decide) rfl q1
  · match j, hj with
    | 0, _ =>
      replace hx := hx.trans (show Int32.ofInt ((22 : Int) + ((0 : Nat) : Int)) = 22 from by decide)
      refine rz_tsj (tgt := 44) d_Processor_branch_1 hx rfl ?_
      refine rz_pure (pc' := 45) d_Processor_branch_44 rfl ?_
      refine rz_sipush (v := 128) d_Processor_branch_45 (by decide) ?_
      refine rz_callVi (t := [.int 128]) d_Processor_branch_48 w_7_123 rfl rfl rfl (w.2.1 hx) (fun xq2 Sq2 q2 => ?_)
      refine rz_ifne (tgt := 58) d_Processor_branch_51 rfl (fun b3 => ?_) (fun b3 => ?_)
      · skip
        refine rz_iconst (v := 0) d_Processor_branch_58 (by decide) ?_
        exact rz_pick (ks := [0]) (l := [(0, .ref 37)]) rfl rfl (by decide) rfl (q2.2 b3)
      · skip
        refine rz_iconst (v := 1) d_Processor_branch_54 (by decide) ?_
        refine rz_pure (pc' := 59) d_Processor_branch_55 rfl ?_
        exact rz_pick (ks := [0]) (l := [(0, .ref 37)]) rfl rfl (by decide) rfl (q2.1 b3)
    | 1, _ =>
      replace hx := hx.trans (show Int32.ofInt ((22 : Int) + ((1 : Nat) : Int)) = 23 from by decide)
      refine rz_tsj (tgt := 63) d_Processor_branch_1 hx rfl ?_
      refine rz_pure (pc' := 64) d_Processor_branch_63 rfl ?_
      refine rz_sipush (v := 128) d_Processor_branch_64 (by decide) ?_
      refine rz_callVi (t := [.int 128]) d_Processor_branch_67 w_7_123 rfl rfl rfl (w.2.2.1 hx) (fun xq4 Sq4 q4 => ?_)
      refine rz_pure (pc' := 71) (l' := [(2, .int xq4), (0, .ref 37), (1, .int a1)]) d_Processor_branch_70 rfl ?_
      refine rz_pure (pc' := 151) d_Processor_branch_71 rfl ?_
      exact rz_pick (ks := [0, 2]) (l := [(0, .ref 37), (2, .int xq4)]) rfl rfl (by decide) rfl q4
    | 2, _ =>
      replace hx := hx.trans (show Int32.ofInt ((22 : Int) + ((2 : Nat) : Int)) = 24 from by decide)
      refine rz_tsj (tgt := 74) d_Processor_branch_1 hx rfl ?_
      refine rz_pure (pc' := 75) d_Processor_branch_74 rfl ?_
      refine rz_bipush (v := 64) d_Processor_branch_75 (by decide) ?_
      refine rz_callVi (t := [.int 64]) d_Processor_branch_77 w_7_123 rfl rfl rfl (w.2.2.2.1 hx) (fun xq5 Sq5 q5 => ?_)
      refine rz_ifne (tgt := 87) d_Processor_branch_80 rfl (fun b6 => ?_) (fun b6 => ?_)
      · skip
        refine rz_iconst (v := 0) d_Processor_branch_87 (by decide) ?_
        exact rz_pick (ks := [0]) (l := [(0, .ref 37)]) rfl rfl (by decide) rfl (q5.2 b6)
      · skip
        refine rz_iconst (v := 1) d_Processor_branch_83 (by decide) ?_
        refine rz_pure (pc' := 88) d_Processor_branch_84 rfl ?_
        exact rz_pick (ks := [0]) (l := [(0, .ref 37)]) rfl rfl (by decide) rfl (q5.1 b6)
    | 3, _ =>
      replace hx := hx.trans (show Int32.ofInt ((22 : Int) + ((3 : Nat) : Int)) = 25 from by decide)
      refine rz_tsj (tgt := 92) d_Processor_branch_1 hx rfl ?_
      refine rz_pure (pc' := 93) d_Processor_branch_92 rfl ?_
      refine rz_bipush (v := 64) d_Processor_branch_93 (by decide) ?_
      refine rz_callVi (t := [.int 64]) d_Processor_branch_95 w_7_123 rfl rfl rfl (w.2.2.2.2.1 hx) (fun xq7 Sq7 q7 => ?_)
      refine rz_pure (pc' := 99) (l' := [(2, .int xq7), (0, .ref 37), (1, .int a1)]) d_Processor_branch_98 rfl ?_
      refine rz_pure (pc' := 151) d_Processor_branch_99 rfl ?_
      exact rz_pick (ks := [0, 2]) (l := [(0, .ref 37), (2, .int xq7)]) rfl rfl (by decide) rfl q7
    | 4, _ =>
      replace hx := hx.trans (show Int32.ofInt ((22 : Int) + ((4 : Nat) : Int)) = 26 from by decide)
      refine rz_tsj (tgt := 102) d_Processor_branch_1 hx rfl ?_
      refine rz_pure (pc' := 103) d_Processor_branch_102 rfl ?_
      refine rz_iconst (v := 1) d_Processor_branch_103 (by decide) ?_
      refine rz_callVi (t := [.int 1]) d_Processor_branch_104 w_7_123 rfl rfl rfl (w.2.2.2.2.2.1 hx) (fun xq8 Sq8 q8 => ?_)
      refine rz_ifne (tgt := 114) d_Processor_branch_107 rfl (fun b9 => ?_) (fun b9 => ?_)
      · skip
        refine rz_iconst (v := 0) d_Processor_branch_114 (by decide) ?_
        exact rz_pick (ks := [0]) (l := [(0, .ref 37)]) rfl rfl (by decide) rfl (q8.2 b9)
      · skip
        refine rz_iconst (v := 1) d_Processor_branch_110 (by decide) ?_
        refine rz_pure (pc' := 115) d_Processor_branch_111 rfl ?_
        exact rz_pick (ks := [0]) (l := [(0, .ref 37)]) rfl rfl (by decide) rfl (q8.1 b9)
    | 5, _ =>
      replace hx := hx.trans (show Int32.ofInt ((22 : Int) + ((5 : Nat) : Int)) = 27 from by decide)
      refine rz_tsj (tgt := 119) d_Processor_branch_1 hx rfl ?_
      refine rz_pure (pc' := 120) d_Processor_branch_119 rfl ?_
      refine rz_iconst (v := 1) d_Processor_branch_120 (by decide) ?_
      refine rz_callVi (t := [.int 1]) d_Processor_branch_121 w_7_123 rfl rfl rfl (w.2.2.2.2.2.2.1 hx) (fun xq10 Sq10 q10 => ?_)
      refine rz_pure (pc' := 125) (l' := [(2, .int xq10), (0, .ref 37), (1, .int a1)]) d_Processor_branch_124 rfl ?_
      refine rz_pure (pc' := 151) d_Processor_branch_125 rfl ?_
      exact rz_pick (ks := [0, 2]) (l := [(0, .ref 37), (2, .int xq10)]) rfl rfl (by decide) rfl q10
    | 6, _ =>
      replace hx := hx.trans (show Int32.ofInt ((22 : Int) + ((6 : Nat) : Int)) = 28 from by decide)
      refine rz_tsj (tgt := 128) d_Processor_branch_1 hx rfl ?_
      refine rz_pure (pc' := 129) d_Processor_branch_128 rfl ?_
      refine rz_iconst (v := 2) d_Processor_branch_129 (by decide) ?_
      refine rz_callVi (t := [.int 2]) d_Processor_branch_130 w_7_123 rfl rfl rfl (w.2.2.2.2.2.2.2 hx) (fun xq11 Sq11 q11 => ?_)
      refine rz_ifne (tgt := 140) d_Processor_branch_133 rfl (fun b12 => ?_) (fun b12 => ?_)
      · skip
        refine rz_iconst (v := 0) d_Processor_branch_140 (by decide) ?_
        exact rz_pick (ks := [0]) (l := [(0, .ref 37)]) rfl rfl (by decide) rfl (q11.2 b12)
      · skip
        refine rz_iconst (v := 1) d_Processor_branch_136 (by decide) ?_
        refine rz_pure (pc' := 141) d_Processor_branch_137 rfl ?_
        exact rz_pick (ks := [0]) (l := [(0, .ref 37)]) rfl rfl (by decide) rfl (q11.1 b12)
    | j + 7, h => exact absurd h (by omega)
theorem p_Processor_branch_151 {S : rz_S} {K : rz_S → Prop} {a2 : Int32} (w : ((a2 = 0 → K S) ∧ (¬ a2 = 0 → ((S.2 37 9 = 0 → K (rz_uI (rz_uI S 37 6 ((S.2 37 6) + 1)) 37 5 ((S.2 37 8) &&& 2047))) ∧ (¬ S.2 37 9 = 0 → K (rz_uI (rz_uI S 37 6 ((S.2 37 6) + 2)) 37 5 ((S.2 37 8) &&& 2047))))))) : rz mProcessor_branch 151 [(0, .ref 37), (2, .int a2)] [] S (rz_v K) := by
  refine rz_pure (pc' := 152) d_Processor_branch_151 rfl ?_
  refine rz_ifeq (tgt := 188) d_Processor_branch_152 rfl (fun b1 => ?_) (fun b1 => ?_)
  · skip
    exact rz_vretv d_Processor_branch_188 rfl (w.1 b1)
  · skip
    refine rz_pure (pc' := 156) d_Processor_branch_155 rfl ?_
    refine rz_pure (pc' := 157) d_Processor_branch_156 rfl ?_
    refine rz_getiv (v := S.2 37 6) d_Processor_branch_157 f_7_42 rfl rfl rfl ?_
    refine rz_pure (pc' := 161) d_Processor_branch_160 rfl ?_
    refine rz_getiv (v := S.2 37 9) d_Processor_branch_161 f_7_65 rfl rfl rfl ?_
    refine rz_ifeq (tgt := 171) d_Processor_branch_164 rfl (fun b2 => ?_) (fun b2 => ?_)
    · skip
      refine rz_iconst (v := 1) d_Processor_branch_171 (by decide) ?_
      refine rz_iadd d_Processor_branch_172 ?_
      refine rz_puti d_Processor_branch_173 f_7_42 rfl rfl rfl ?_
      refine rz_pure (pc' := 177) d_Processor_branch_176 rfl ?_
      refine rz_pure (pc' := 178) d_Processor_branch_177 rfl ?_
      refine rz_getiv (v := S.2 37 8) d_Processor_branch_178 f_7_69 rfl rfl ((rz_uI_n (fun h => absurd h.2 (by decide))).trans rfl) ?_
      refine rz_sipush (v := 2047) d_Processor_branch_181 (by decide) ?_
      refine rz_iand d_Processor_branch_184 ?_
      refine rz_puti d_Processor_branch_185 f_7_39 rfl rfl rfl ?_
      exact rz_vretv d_Processor_branch_188 rfl ((w.2 b1).1 b2)
    · skip
      refine rz_iconst (v := 2) d_Processor_branch_167 (by decide) ?_
      refine rz_pure (pc' := 172) d_Processor_branch_168 rfl ?_
      refine rz_iadd d_Processor_branch_172 ?_
      refine rz_puti d_Processor_branch_173 f_7_42 rfl rfl rfl ?_
      refine rz_pure (pc' := 177) d_Processor_branch_176 rfl ?_
      refine rz_pure (pc' := 178) d_Processor_branch_177 rfl ?_
      refine rz_getiv (v := S.2 37 8) d_Processor_branch_178 f_7_69 rfl rfl ((rz_uI_n (fun h => absurd h.2 (by decide))).trans rfl) ?_
      refine rz_sipush (v := 2047) d_Processor_branch_181 (by decide) ?_
      refine rz_iand d_Processor_branch_184 ?_
      refine rz_puti d_Processor_branch_185 f_7_39 rfl rfl rfl ?_
      exact rz_vretv d_Processor_branch_188 rfl ((w.2 b1).2 b2)
theorem p_Processor_branch_59 {S : rz_S} {K : rz_S → Prop} {s0 : Int32} (w : rz mProcessor_branch 151 [(0, .ref 37), (2, .int s0)] [] S (rz_v K)) : rz mProcessor_branch 59 [(0, .ref 37)] [.int s0] S (rz_v K) := by
  refine rz_pure (pc' := 60) (l' := [(2, .int s0), (0, .ref 37)]) d_Processor_branch_59 rfl ?_
  refine rz_pure (pc' := 151) d_Processor_branch_60 rfl ?_
  exact rz_pick (ks := [0, 2]) (l := [(0, .ref 37), (2, .int s0)]) rfl rfl (by decide) rfl w
theorem p_Processor_branch_88 {S : rz_S} {K : rz_S → Prop} {s0 : Int32} (w : rz mProcessor_branch 151 [(0, .ref 37), (2, .int s0)] [] S (rz_v K)) : rz mProcessor_branch 88 [(0, .ref 37)] [.int s0] S (rz_v K) := by
  refine rz_pure (pc' := 89) (l' := [(2, .int s0), (0, .ref 37)]) d_Processor_branch_88 rfl ?_
  refine rz_pure (pc' := 151) d_Processor_branch_89 rfl ?_
  exact rz_pick (ks := [0, 2]) (l := [(0, .ref 37), (2, .int s0)]) rfl rfl (by decide) rfl w
theorem p_Processor_branch_115 {S : rz_S} {K : rz_S → Prop} {s0 : Int32} (w : rz mProcessor_branch 151 [(0, .ref 37), (2, .int s0)] [] S (rz_v K)) : rz mProcessor_branch 115 [(0, .ref 37)] [.int s0] S (rz_v K) := by
  refine rz_pure (pc' := 116) (l' := [(2, .int s0), (0, .ref 37)]) d_Processor_branch_115 rfl ?_
  refine rz_pure (pc' := 151) d_Processor_branch_116 rfl ?_
  exact rz_pick (ks := [0, 2]) (l := [(0, .ref 37), (2, .int s0)]) rfl rfl (by decide) rfl w
theorem p_Processor_branch_141 {S : rz_S} {K : rz_S → Prop} {s0 : Int32} (w : rz mProcessor_branch 151 [(0, .ref 37), (2, .int s0)] [] S (rz_v K)) : rz mProcessor_branch 141 [(0, .ref 37)] [.int s0] S (rz_v K) := by
  refine rz_pure (pc' := 142) (l' := [(2, .int s0), (0, .ref 37)]) d_Processor_branch_141 rfl ?_
  refine rz_pure (pc' := 151) d_Processor_branch_142 rfl ?_
  exact rz_pick (ks := [0, 2]) (l := [(0, .ref 37), (2, .int s0)]) rfl rfl (by decide) rfl w
theorem d_Processor_move_0 : decode (rm_code mProcessor_move) 0 = .ok (.iload_n 1, 1) := by decide +kernel
theorem d_Processor_move_1 : decode (rm_code mProcessor_move) 1 = .ok (.tableswitch (188) (30) (38) #[(51), (66), (81), (96), (111), (126), (137), (154), (171)], 51) := by decide +kernel
theorem d_Processor_move_52 : decode (rm_code mProcessor_move) 52 = .ok (.aload_n 0, 1) := by decide +kernel
theorem d_Processor_move_53 : decode (rm_code mProcessor_move) 53 = .ok (.aload_n 0, 1) := by decide +kernel
theorem d_Processor_move_54 : decode (rm_code mProcessor_move) 54 = .ok (.aload_n 0, 1) := by decide +kernel
theorem d_Processor_move_55 : decode (rm_code mProcessor_move) 55 = .ok (.getfield 30, 3) := by decide +kernel
theorem d_Processor_move_58 : decode (rm_code mProcessor_move) 58 = .ok (.invokevirtual 108, 3) := by decide +kernel
theorem d_Processor_move_61 : decode (rm_code mProcessor_move) 61 = .ok (.putfield 33, 3) := by decide +kernel
theorem d_Processor_move_64 : decode (rm_code mProcessor_move) 64 = .ok (.goto (139), 3) := by decide +kernel
theorem d_Processor_move_67 : decode (rm_code mProcessor_move) 67 = .ok (.aload_n 0, 1) := by decide +kernel
theorem d_Processor_move_68 : decode (rm_code mProcessor_move) 68 = .ok (.aload_n 0, 1) := by decide +kernel
theorem d_Processor_move_69 : decode (rm_code mProcessor_move) 69 = .ok (.aload_n 0, 1) := by decide +kernel
theorem d_Processor_move_70 : decode (rm_code mProcessor_move) 70 = .ok (.getfield 30, 3) := by decide +kernel
theorem d_Processor_move_73 : decode (rm_code mProcessor_move) 73 = .ok (.invokevirtual 108, 3) := by decide +kernel
theorem d_Processor_move_76 : decode (rm_code mProcessor_move) 76 = .ok (.putfield 36, 3) := by decide +kernel
theorem d_Processor_move_79 : decode (rm_code mProcessor_move) 79 = .ok (.goto (124), 3) := by decide +kernel
theorem d_Processor_move_82 : decode (rm_code mProcessor_move) 82 = .ok (.aload_n 0, 1) := by decide +kernel
theorem d_Processor_move_83 : decode (rm_code mProcessor_move) 83 = .ok (.aload_n 0, 1) := by decide +kernel
theorem d_Processor_move_84 : decode (rm_code mProcessor_move) 84 = .ok (.aload_n 0, 1) := by decide +kernel
theorem d_Processor_move_85 : decode (rm_code mProcessor_move) 85 = .ok (.getfield 33, 3) := by decide +kernel
theorem d_Processor_move_88 : decode (rm_code mProcessor_move) 88 = .ok (.invokevirtual 108, 3) := by decide +kernel
theorem d_Processor_move_91 : decode (rm_code mProcessor_move) 91 = .ok (.putfield 30, 3) := by decide +kernel
theorem d_Processor_move_94 : decode (rm_code mProcessor_move) 94 = .ok (.goto (109), 3) := by decide +kernel
theorem d_Processor_move_97 : decode (rm_code mProcessor_move) 97 = .ok (.aload_n 0, 1) := by decide +kernel
theorem d_Processor_move_98 : decode (rm_code mProcessor_move) 98 = .ok (.aload_n 0, 1) := by decide +kernel
theorem d_Processor_move_99 : decode (rm_code mProcessor_move) 99 = .ok (.aload_n 0, 1) := by decide +kernel
theorem d_Processor_move_100 : decode (rm_code mProcessor_move) 100 = .ok (.getfield 36, 3) := by decide +kernel
theorem d_Processor_move_103 : decode (rm_code mProcessor_move) 103 = .ok (.invokevirtual 108, 3) := by decide +kernel
theorem d_Processor_move_106 : decode (rm_code mProcessor_move) 106 = .ok (.putfield 30, 3) := by decide +kernel
theorem d_Processor_move_109 : decode (rm_code mProcessor_move) 109 = .ok (.goto (94), 3) := by decide +kernel
theorem d_Processor_move_112 : decode (rm_code mProcessor_move) 112 = .ok (.aload_n 0, 1) := by decide +kernel
theorem d_Processor_move_113 : decode (rm_code mProcessor_move) 113 = .ok (.aload_n 0, 1) := by decide +kernel
theorem d_Processor_move_114 : decode (rm_code mProcessor_move) 114 = .ok (.aload_n 0, 1) := by decide +kernel
theorem d_Processor_move_115 : decode (rm_code mProcessor_move) 115 = .ok (.getfield 23, 3) := by decide +kernel
theorem d_Processor_move_118 : decode (rm_code mProcessor_move) 118 = .ok (.invokevirtual 108, 3) := by decide +kernel
theorem d_Processor_move_121 : decode (rm_code mProcessor_move) 121 = .ok (.putfield 33, 3) := by decide +kernel
theorem d_Processor_move_124 : decode (rm_code mProcessor_move) 124 = .ok (.goto (79), 3) := by decide +kernel
theorem d_Processor_move_127 : decode (rm_code mProcessor_move) 127 = .ok (.aload_n 0, 1) := by decide +kernel
theorem d_Processor_move_128 : decode (rm_code mProcessor_move) 128 = .ok (.aload_n 0, 1) := by decide +kernel
theorem d_Processor_move_129 : decode (rm_code mProcessor_move) 129 = .ok (.getfield 33, 3) := by decide +kernel
theorem d_Processor_move_132 : decode (rm_code mProcessor_move) 132 = .ok (.putfield 23, 3) := by decide +kernel
theorem d_Processor_move_135 : decode (rm_code mProcessor_move) 135 = .ok (.goto (68), 3) := by decide +kernel
theorem d_Processor_move_138 : decode (rm_code mProcessor_move) 138 = .ok (.aload_n 0, 1) := by decide +kernel
theorem d_Processor_move_139 : decode (rm_code mProcessor_move) 139 = .ok (.aload_n 0, 1) := by decide +kernel
theorem d_Processor_move_140 : decode (rm_code mProcessor_move) 140 = .ok (.aload_n 0, 1) := by decide +kernel
theorem d_Processor_move_141 : decode (rm_code mProcessor_move) 141 = .ok (.getfield 33, 3) := by decide +kernel
theorem d_Processor_move_144 : decode (rm_code mProcessor_move) 144 = .ok (.iconst 1, 1) := by decide +kernel
theorem d_Processor_move_145 : decode (rm_code mProcessor_move) 145 = .ok (.iadd, 1) := by decide +kernel
theorem d_Processor_move_146 : decode (rm_code mProcessor_move) 146 = .ok (.invokevirtual 108, 3) := by decide +kernel
theorem d_Processor_move_149 : decode (rm_code mProcessor_move) 149 = .ok (.putfield 33, 3) := by decide +kernel
theorem d_Processor_move_152 : decode (rm_code mProcessor_move) 152 = .ok (.goto (51), 3) := by decide +kernel
theorem d_Processor_move_155 : decode (rm_code mProcessor_move) 155 = .ok (.aload_n 0, 1) := by decide +kernel
theorem d_Processor_move_156 : decode (rm_code mProcessor_move) 156 = .ok (.aload_n 0, 1) := by decide +kernel
theorem d_Processor_move_157 : decode (rm_code mProcessor_move) 157 = .ok (.aload_n 0, 1) := by decide +kernel
theorem d_Processor_move_158 : decode (rm_code mProcessor_move) 158 = .ok (.getfield 36, 3) := by decide +kernel
theorem d_Processor_move_161 : decode (rm_code mProcessor_move) 161 = .ok (.iconst 1, 1) := by decide +kernel
theorem d_Processor_move_162 : decode (rm_code mProcessor_move) 162 = .ok (.iadd, 1) := by decide +kernel
theorem d_Processor_move_163 : decode (rm_code mProcessor_move) 163 = .ok (.invokevirtual 108, 3) := by decide +kernel
theorem d_Processor_move_166 : decode (rm_code mProcessor_move) 166 = .ok (.putfield 36, 3) := by decide +kernel
theorem d_Processor_move_169 : decode (rm_code mProcessor_move) 169 = .ok (.goto (34), 3) := by decide +kernel
theorem d_Processor_move_172 : decode (rm_code mProcessor_move) 172 = .ok (.aload_n 0, 1) := by decide +kernel
theorem d_Processor_move_173 : decode (rm_code mProcessor_move) 173 = .ok (.aload_n 0, 1) := by decide +kernel
theorem d_Processor_move_174 : decode (rm_code mProcessor_move) 174 = .ok (.aload_n 0, 1) := by decide +kernel
theorem d_Processor_move_175 : decode (rm_code mProcessor_move) 175 = .ok (.getfield 33, 3) := by decide +kernel
theorem d_Processor_move_178 : decode (rm_code mProcessor_move) 178 = .ok (.iconst 1, 1) := by decide +kernel
theorem d_Processor_move_179 : decode (rm_code mProcessor_move) 179 = .ok (.isub, 1) := by decide +kernel
theorem d_Processor_move_180 : decode (rm_code mProcessor_move) 180 = .ok (.invokevirtual 108, 3) := by decide +kernel
theorem d_Processor_move_183 : decode (rm_code mProcessor_move) 183 = .ok (.putfield 33, 3) := by decide +kernel
theorem d_Processor_move_186 : decode (rm_code mProcessor_move) 186 = .ok (.goto (17), 3) := by decide +kernel
theorem d_Processor_move_189 : decode (rm_code mProcessor_move) 189 = .ok (.aload_n 0, 1) := by decide +kernel
theorem d_Processor_move_190 : decode (rm_code mProcessor_move) 190 = .ok (.aload_n 0, 1) := by decide +kernel
theorem d_Processor_move_191 : decode (rm_code mProcessor_move) 191 = .ok (.aload_n 0, 1) := by decide +kernel
theorem d_Processor_move_192 : decode (rm_code mProcessor_move) 192 = .ok (.getfield 36, 3) := by decide +kernel
theorem d_Processor_move_195 : decode (rm_code mProcessor_move) 195 = .ok (.iconst 1, 1) := by decide +kernel
theorem d_Processor_move_196 : decode (rm_code mProcessor_move) 196 = .ok (.isub, 1) := by decide +kernel
theorem d_Processor_move_197 : decode (rm_code mProcessor_move) 197 = .ok (.invokevirtual 108, 3) := by decide +kernel
theorem d_Processor_move_200 : decode (rm_code mProcessor_move) 200 = .ok (.putfield 36, 3) := by decide +kernel
theorem d_Processor_move_203 : decode (rm_code mProcessor_move) 203 = .ok (.return_, 1) := by decide +kernel
theorem p_Processor_move_0 {S : rz_S} {K : rz_S → Prop} {a1 : Int32} (w : ((a1.toInt < 30 ∨ 38 < a1.toInt → rz_ev mProcessor_marked [.ref 37, .int ((S.2 37 2) - 1)] S (rz_i (fun xq1 Sq1 => K (rz_uI Sq1 37 2 xq1)))) ∧ (a1 = 30 → rz_ev mProcessor_marked [.ref 37, .int (S.2 37 0)] S (rz_i (fun xq2 Sq2 => K (rz_uI Sq2 37 1 xq2)))) ∧ (a1 = 31 → rz_ev mProcessor_marked [.ref 37, .int (S.2 37 0)] S (rz_i (fun xq3 Sq3 => K (rz_uI Sq3 37 2 xq3)))) ∧ (a1 = 32 → rz_ev mProcessor_marked [.ref 37, .int (S.2 37 1)] S (rz_i (fun xq4 Sq4 => K (rz_uI Sq4 37 0 xq4)))) ∧ (a1 = 33 → rz_ev mProcessor_marked [.ref 37, .int (S.2 37 2)] S (rz_i (fun xq5 Sq5 => K (rz_uI Sq5 37 0 xq5)))) ∧ (a1 = 34 → rz_ev mProcessor_marked [.ref 37, .int (S.2 37 3)] S (rz_i (fun xq6 Sq6 => K (rz_uI Sq6 37 1 xq6)))) ∧ (a1 = 35 → K (rz_uI S 37 3 (S.2 37 1))) ∧ (a1 = 36 → rz_ev mProcessor_marked [.ref 37, .int ((S.2 37 1) + 1)] S (rz_i (fun xq7 Sq7 => K (rz_uI Sq7 37 1 xq7)))) ∧ (a1 = 37 → rz_ev mProcessor_marked [.ref 37, .int ((S.2 37 2) + 1)] S (rz_i (fun xq8 Sq8 => K (rz_uI Sq8 37 2 xq8)))) ∧ (a1 = 38 → rz_ev mProcessor_marked [.ref 37, .int ((S.2 37 1) - 1)] S (rz_i (fun xq9 Sq9 => K (rz_uI Sq9 37 1 xq9)))))) : rz mProcessor_move 0 [(0, .ref 37), (1, .int a1)] [] S (rz_v K) := by
  refine rz_pure (pc' := 1) d_Processor_move_0 rfl ?_
  refine rz_tsw (n := 9) (lo := 30) (tgt := 189) d_Processor_move_1 rfl rfl (fun b0 => ?_) (fun j hj hx => ?_)
  · skip
    refine rz_pure (pc' := 190) d_Processor_move_189 rfl ?_
    refine rz_pure (pc' := 191) d_Processor_move_190 rfl ?_
    refine rz_pure (pc' := 192) d_Processor_move_191 rfl ?_
    refine rz_getiv (v := S.2 37 2) d_Processor_move_192 f_7_36 rfl rfl rfl ?_
    refine rz_iconst (v := 1) d_Processor_move_195 (by decide) ?_
    refine rz_isub d_Processor_move_196 ?_
    refine rz_callVi (t := [.int ((S.2 37 2) - 1)]) d_Processor_move_197 w_7_108 rfl rfl rfl (w.1 b0) (fun xq1 Sq1 q1 => ?_)
    refine rz_puti d_Processor_move_200 f_7_36 rfl rfl rfl ?_
    exact rz_vretv d_Processor_move_203 rfl q1
  · match j, hj with
    | 0, _ =>
      replace hx := hx.trans (show Int32.ofInt ((30 : Int) + ((0 : Nat) : Int)) = 30 from by decide)
      refine rz_tsj (tgt := 52) d_Processor_move_1 hx rfl ?_
      refine rz_pure (pc' := 53) d_Processor_move_52 rfl ?_
      refine rz_pure (pc' := 54) d_Processor_move_53 rfl ?_
      refine rz_pure (pc' := 55) d_Processor_move_54 rfl ?_
      refine rz_getiv (v := S.2 37 0) d_Processor_move_55 f_7_30 rfl rfl rfl ?_
      refine rz_callVi (t := [.int (S.2 37 0)]) d_Processor_move_58 w_7_108 rfl rfl rfl (w.2.1 hx) (fun xq2 Sq2 q2 => ?_)
      refine rz_puti d_Processor_move_61 f_7_33 rfl rfl rfl ?_
      refine rz_pure (pc' := 203) d_Processor_move_64 rfl ?_
      exact rz_vretv d_Processor_move_203 rfl q2
    | 1, _ =>
      replace hx := hx.trans (show Int32.ofInt ((30 : Int) + ((1 : Nat) : Int)) = 31 from by decide)
      refine rz_tsj (tgt := 67) d_Processor_move_1 hx rfl ?_
      refine rz_pure (pc' := 68) d_Processor_move_67 rfl ?_
      refine rz_pure (pc' := 69) d_Processor_move_68 rfl ?_
      refine rz_pure (pc' := 70) d_Processor_move_69 rfl ?_
      refine rz_getiv (v := S.2 37 0) d_Processor_move_70 f_7_30 rfl rfl rfl ?_
      refine rz_callVi (t := [.int (S.2 37 0)]) d_Processor_move_73 w_7_108 rfl rfl rfl (w.2.2.1 hx) (fun xq3 Sq3 q3 => ?_)
      refine rz_puti d_Processor_move_76 f_7_36 rfl rfl rfl ?_
      refine rz_pure (pc' := 203) d_Processor_move_79 rfl ?_
      exact rz_vretv d_Processor_move_203 rfl q3
    | 2, _ =>
      replace hx := hx.trans (show Int32.ofInt ((30 : Int) + ((2 : Nat) : Int)) = 32 from by decide)
      refine rz_tsj (tgt := 82) d_Processor_move_1 hx rfl ?_
      refine rz_pure (pc' := 83) d_Processor_move_82 rfl ?_
      refine rz_pure (pc' := 84) d_Processor_move_83 rfl ?_
      refine rz_pure (pc' := 85) d_Processor_move_84 rfl ?_
      refine rz_getiv (v := S.2 37 1) d_Processor_move_85 f_7_33 rfl rfl rfl ?_
      refine rz_callVi (t := [.int (S.2 37 1)]) d_Processor_move_88 w_7_108 rfl rfl rfl (w.2.2.2.1 hx) (fun xq4 Sq4 q4 => ?_)
      refine rz_puti d_Processor_move_91 f_7_30 rfl rfl rfl ?_
      refine rz_pure (pc' := 203) d_Processor_move_94 rfl ?_
      exact rz_vretv d_Processor_move_203 rfl q4
    | 3, _ =>
      replace hx := hx.trans (show Int32.ofInt ((30 : Int) + ((3 : Nat) : Int)) = 33 from by decide)
      refine rz_tsj (tgt := 97) d_Processor_move_1 hx rfl ?_
      refine rz_pure (pc' := 98) d_Processor_move_97 rfl ?_
      refine rz_pure (pc' := 99) d_Processor_move_98 rfl ?_
      refine rz_pure (pc' := 100) d_Processor_move_99 rfl ?_
      refine rz_getiv (v := S.2 37 2) d_Processor_move_100 f_7_36 rfl rfl rfl ?_
      refine rz_callVi (t := [.int (S.2 37 2)]) d_Processor_move_103 w_7_108 rfl rfl rfl (w.2.2.2.2.1 hx) (fun xq5 Sq5 q5 => ?_)
      refine rz_puti d_Processor_move_106 f_7_30 rfl rfl rfl ?_
      refine rz_pure (pc' := 203) d_Processor_move_109 rfl ?_
      exact rz_vretv d_Processor_move_203 rfl q5
    | 4, _ =>
      replace hx := hx.trans (show Int32.ofInt ((30 : Int) + ((4 : Nat) : Int)) = 34 from by decide)
      refine rz_tsj (tgt := 112) d_Processor_move_1 hx rfl ?_
      refine rz_pure (pc' := 113) d_Processor_move_112 rfl ?_
      refine rz_pure (pc' := 114) d_Processor_move_113 rfl ?_
      refine rz_pure (pc' := 115) d_Processor_move_114 rfl ?_
      refine rz_getiv (v := S.2 37 3) d_Processor_move_115 f_7_23 rfl rfl rfl ?_
      refine rz_callVi (t := [.int (S.2 37 3)]) d_Processor_move_118 w_7_108 rfl rfl rfl (w.2.2.2.2.2.1 hx) (fun xq6 Sq6 q6 => ?_)
      refine rz_puti d_Processor_move_121 f_7_33 rfl rfl rfl ?_
      refine rz_pure (pc' := 203) d_Processor_move_124 rfl ?_
      exact rz_vretv d_Processor_move_203 rfl q6
    | 5, _ =>
      replace hx := hx.trans (show Int32.ofInt ((30 : Int) + ((5 : Nat) : Int)) = 35 from by decide)
      refine rz_tsj (tgt := 127) d_Processor_move_1 hx rfl ?_
      refine rz_pure (pc' := 128) d_Processor_move_127 rfl ?_
      refine rz_pure (pc' := 129) d_Processor_move_128 rfl ?_
      refine rz_getiv (v := S.2 37 1) d_Processor_move_129 f_7_33 rfl rfl rfl ?_
      refine rz_puti d_Processor_move_132 f_7_23 rfl rfl rfl ?_
      refine rz_pure (pc' := 203) d_Processor_move_135 rfl ?_
      exact rz_vretv d_Processor_move_203 rfl (w.2.2.2.2.2.2.1 hx)
    | 6, _ =>
      replace hx := hx.trans (show Int32.ofInt ((30 : Int) + ((6 : Nat) : Int)) = 36 from by decide)
      refine rz_tsj (tgt := 138) d_Processor_move_1 hx rfl ?_
      refine rz_pure (pc' := 139) d_Processor_move_138 rfl ?_
      refine rz_pure (pc' := 140) d_Processor_move_139 rfl ?_
      refine rz_pure (pc' := 141) d_Processor_move_140 rfl ?_
      refine rz_getiv (v := S.2 37 1) d_Processor_move_141 f_7_33 rfl rfl rfl ?_
      refine rz_iconst (v := 1) d_Processor_move_144 (by decide) ?_
      refine rz_iadd d_Processor_move_145 ?_
      refine rz_callVi (t := [.int ((S.2 37 1) + 1)]) d_Processor_move_146 w_7_108 rfl rfl rfl (w.2.2.2.2.2.2.2.1 hx) (fun xq7 Sq7 q7 => ?_)
      refine rz_puti d_Processor_move_149 f_7_33 rfl rfl rfl ?_
      refine rz_pure (pc' := 203) d_Processor_move_152 rfl ?_
      exact rz_vretv d_Processor_move_203 rfl q7
    | 7, _ =>
      replace hx := hx.trans (show Int32.ofInt ((30 : Int) + ((7 : Nat) : Int)) = 37 from by decide)
      refine rz_tsj (tgt := 155) d_Processor_move_1 hx rfl ?_
      refine rz_pure (pc' := 156) d_Processor_move_155 rfl ?_
      refine rz_pure (pc' := 157) d_Processor_move_156 rfl ?_
      refine rz_pure (pc' := 158) d_Processor_move_157 rfl ?_
      refine rz_getiv (v := S.2 37 2) d_Processor_move_158 f_7_36 rfl rfl rfl ?_
      refine rz_iconst (v := 1) d_Processor_move_161 (by decide) ?_
      refine rz_iadd d_Processor_move_162 ?_
      refine rz_callVi (t := [.int ((S.2 37 2) + 1)]) d_Processor_move_163 w_7_108 rfl rfl rfl (w.2.2.2.2.2.2.2.2.1 hx) (fun xq8 Sq8 q8 => ?_)
      refine rz_puti d_Processor_move_166 f_7_36 rfl rfl rfl ?_
      refine rz_pure (pc' := 203) d_Processor_move_169 rfl ?_
      exact rz_vretv d_Processor_move_203 rfl q8
    | 8, _ =>
      replace hx := hx.trans (show Int32.ofInt ((30 : Int) + ((8 : Nat) : Int)) = 38 from by decide)
      refine rz_tsj (tgt := 172) d_Processor_move_1 hx rfl ?_
      refine rz_pure (pc' := 173) d_Processor_move_172 rfl ?_
      refine rz_pure (pc' := 174) d_Processor_move_173 rfl ?_
      refine rz_pure (pc' := 175) d_Processor_move_174 rfl ?_
      refine rz_getiv (v := S.2 37 1) d_Processor_move_175 f_7_33 rfl rfl rfl ?_
      refine rz_iconst (v := 1) d_Processor_move_178 (by decide) ?_
      refine rz_isub d_Processor_move_179 ?_
      refine rz_callVi (t := [.int ((S.2 37 1) - 1)]) d_Processor_move_180 w_7_108 rfl rfl rfl (w.2.2.2.2.2.2.2.2.2 hx) (fun xq9 Sq9 q9 => ?_)
      refine rz_puti d_Processor_move_183 f_7_33 rfl rfl rfl ?_
      refine rz_pure (pc' := 203) d_Processor_move_186 rfl ?_
      exact rz_vretv d_Processor_move_203 rfl q9
    | j + 9, h => exact absurd h (by omega)
theorem d_Processor_changeFlag_0 : decode (rm_code mProcessor_changeFlag) 0 = .ok (.iload_n 1, 1) := by decide +kernel
theorem d_Processor_changeFlag_1 : decode (rm_code mProcessor_changeFlag) 1 = .ok (.tableswitch (109) (40) (46) #[(43), (52), (61), (70), (79), (89), (99)], 43) := by decide +kernel
theorem d_Processor_changeFlag_44 : decode (rm_code mProcessor_changeFlag) 44 = .ok (.aload_n 0, 1) := by decide +kernel
theorem d_Processor_changeFlag_45 : decode (rm_code mProcessor_changeFlag) 45 = .ok (.iconst 1, 1) := by decide +kernel
theorem d_Processor_changeFlag_46 : decode (rm_code mProcessor_changeFlag) 46 = .ok (.iconst 0, 1) := by decide +kernel
theorem d_Processor_changeFlag_47 : decode (rm_code mProcessor_changeFlag) 47 = .ok (.invokevirtual 117, 3) := by decide +kernel
theorem d_Processor_changeFlag_50 : decode (rm_code mProcessor_changeFlag) 50 = .ok (.goto (60), 3) := by decide +kernel
theorem d_Processor_changeFlag_53 : decode (rm_code mProcessor_changeFlag) 53 = .ok (.aload_n 0, 1) := by decide +kernel
theorem d_Processor_changeFlag_54 : decode (rm_code mProcessor_changeFlag) 54 = .ok (.iconst 1, 1) := by decide +kernel
theorem d_Processor_changeFlag_55 : decode (rm_code mProcessor_changeFlag) 55 = .ok (.iconst 1, 1) := by decide +kernel
theorem d_Processor_changeFlag_56 : decode (rm_code mProcessor_changeFlag) 56 = .ok (.invokevirtual 117, 3) := by decide +kernel
theorem d_Processor_changeFlag_59 : decode (rm_code mProcessor_changeFlag) 59 = .ok (.goto (51), 3) := by decide +kernel
theorem d_Processor_changeFlag_62 : decode (rm_code mProcessor_changeFlag) 62 = .ok (.aload_n 0, 1) := by decide +kernel
theorem d_Processor_changeFlag_63 : decode (rm_code mProcessor_changeFlag) 63 = .ok (.iconst 4, 1) := by decide +kernel
theorem d_Processor_changeFlag_64 : decode (rm_code mProcessor_changeFlag) 64 = .ok (.iconst 0, 1) := by decide +kernel
theorem d_Processor_changeFlag_65 : decode (rm_code mProcessor_changeFlag) 65 = .ok (.invokevirtual 117, 3) := by decide +kernel
theorem d_Processor_changeFlag_68 : decode (rm_code mProcessor_changeFlag) 68 = .ok (.goto (42), 3) := by decide +kernel
theorem d_Processor_changeFlag_71 : decode (rm_code mProcessor_changeFlag) 71 = .ok (.aload_n 0, 1) := by decide +kernel
theorem d_Processor_changeFlag_72 : decode (rm_code mProcessor_changeFlag) 72 = .ok (.iconst 4, 1) := by decide +kernel
theorem d_Processor_changeFlag_73 : decode (rm_code mProcessor_changeFlag) 73 = .ok (.iconst 1, 1) := by decide +kernel
theorem d_Processor_changeFlag_74 : decode (rm_code mProcessor_changeFlag) 74 = .ok (.invokevirtual 117, 3) := by decide +kernel
theorem d_Processor_changeFlag_77 : decode (rm_code mProcessor_changeFlag) 77 = .ok (.goto (33), 3) := by decide +kernel
theorem d_Processor_changeFlag_80 : decode (rm_code mProcessor_changeFlag) 80 = .ok (.aload_n 0, 1) := by decide +kernel
theorem d_Processor_changeFlag_81 : decode (rm_code mProcessor_changeFlag) 81 = .ok (.bipush (64), 2) := by decide +kernel
theorem d_Processor_changeFlag_83 : decode (rm_code mProcessor_changeFlag) 83 = .ok (.iconst 0, 1) := by decide +kernel
theorem d_Processor_changeFlag_84 : decode (rm_code mProcessor_changeFlag) 84 = .ok (.invokevirtual 117, 3) := by decide +kernel
theorem d_Processor_changeFlag_87 : decode (rm_code mProcessor_changeFlag) 87 = .ok (.goto (23), 3) := by decide +kernel
theorem d_Processor_changeFlag_90 : decode (rm_code mProcessor_changeFlag) 90 = .ok (.aload_n 0, 1) := by decide +kernel
theorem d_Processor_changeFlag_91 : decode (rm_code mProcessor_changeFlag) 91 = .ok (.bipush (8), 2) := by decide +kernel
theorem d_Processor_changeFlag_93 : decode (rm_code mProcessor_changeFlag) 93 = .ok (.iconst 0, 1) := by decide +kernel
theorem d_Processor_changeFlag_94 : decode (rm_code mProcessor_changeFlag) 94 = .ok (.invokevirtual 117, 3) := by decide +kernel
theorem d_Processor_changeFlag_97 : decode (rm_code mProcessor_changeFlag) 97 = .ok (.goto (13), 3) := by decide +kernel
theorem d_Processor_changeFlag_100 : decode (rm_code mProcessor_changeFlag) 100 = .ok (.aload_n 0, 1) := by decide +kernel
theorem d_Processor_changeFlag_101 : decode (rm_code mProcessor_changeFlag) 101 = .ok (.bipush (8), 2) := by decide +kernel
theorem d_Processor_changeFlag_103 : decode (rm_code mProcessor_changeFlag) 103 = .ok (.iconst 1, 1) := by decide +kernel
theorem d_Processor_changeFlag_104 : decode (rm_code mProcessor_changeFlag) 104 = .ok (.invokevirtual 117, 3) := by decide +kernel
theorem d_Processor_changeFlag_107 : decode (rm_code mProcessor_changeFlag) 107 = .ok (.goto (3), 3) := by decide +kernel
theorem d_Processor_changeFlag_110 : decode (rm_code mProcessor_changeFlag) 110 = .ok (.return_, 1) := by decide +kernel
theorem p_Processor_changeFlag_0 {S : rz_S} {K : rz_S → Prop} {a1 : Int32} (w : ((a1.toInt < 40 ∨ 46 < a1.toInt → K S) ∧ (a1 = 40 → rz_ev mProcessor_flag [.ref 37, .int 1, .int 0] S (rz_v (fun Sq1 => K Sq1))) ∧ (a1 = 41 → rz_ev mProcessor_flag [.ref 37, .int 1, .int 1] S (rz_v (fun Sq2 => K Sq2))) ∧ (a1 = 42 → rz_ev mProcessor_flag [.ref 37, .int 4, .int 0] S (rz_v (fun Sq3 => K Sq3))) ∧ (a1 = 43 → rz_ev mProcessor_flag [.ref 37, .int 4, .int 1] S (rz_v (fun Sq4 => K Sq4))) ∧ (a1 = 44 → rz_ev mProcessor_flag [.ref 37, .int 64, .int 0] S (rz_v (fun Sq5 => K Sq5))) ∧ (a1 = 45 → rz_ev mProcessor_flag [.ref 37, .int 8, .int 0] S (rz_v (fun Sq6 => K Sq6))) ∧ (a1 = 46 → rz_ev mProcessor_flag [.ref 37, .int 8, .int 1] S (rz_v (fun Sq7 => K Sq7))))) : rz mProcessor_changeFlag 0 [(0, .ref 37), (1, .int a1)] [] S (rz_v K) := by
  refine rz_pure (pc' := 1) d_Processor_changeFlag_0 rfl ?_
  refine rz_tsw (n := 7) (lo := 40) (tgt := 110) d_Processor_changeFlag_1 rfl rfl (fun b0 => ?_) (fun j hj hx => ?_)
  · skip
    exact rz_vretv d_Processor_changeFlag_110 rfl (w.1 b0)
  · match j, hj with
    | 0, _ =>
      replace hx := hx.trans (show Int32.ofInt ((40 : Int) + ((0 : Nat) : Int)) = 40 from by decide)
      refine rz_tsj (tgt := 44) d_Processor_changeFlag_1 hx rfl ?_
      refine rz_pure (pc' := 45) d_Processor_changeFlag_44 rfl ?_
      refine rz_iconst (v := 1) d_Processor_changeFlag_45 (by decide) ?_
      refine rz_iconst (v := 0) d_Processor_changeFlag_46 (by decide) ?_
      refine rz_callVv (t := [.int 0, .int 1]) d_Processor_changeFlag_47 w_7_117 rfl rfl rfl (w.2.1 hx) (fun Sq1 q1 => ?_)
      refine rz_pure (pc' := 110) d_Processor_changeFlag_50 rfl ?_
      exact rz_vretv d_Processor_changeFlag_110 rfl q1
    | 1, _ =>
      replace hx := hx.trans (show Int32.ofInt ((40 : Int) + ((1 : Nat) : Int)) = 41 from by decide)
      refine rz_tsj (tgt := 53) d_Processor_changeFlag_1 hx rfl ?_
      refine rz_pure (pc' := 54) d_Processor_changeFlag_53 rfl ?_
      refine rz_iconst (v := 1) d_Processor_changeFlag_54 (by decide) ?_
      refine rz_iconst (v := 1) d_Processor_changeFlag_55 (by decide) ?_
      refine rz_callVv (t := [.int 1, .int 1]) d_Processor_changeFlag_56 w_7_117 rfl rfl rfl (w.2.2.1 hx) (fun Sq2 q2 => ?_)
      refine rz_pure (pc' := 110) d_Processor_changeFlag_59 rfl ?_
      exact rz_vretv d_Processor_changeFlag_110 rfl q2
    | 2, _ =>
      replace hx := hx.trans (show Int32.ofInt ((40 : Int) + ((2 : Nat) : Int)) = 42 from by decide)
      refine rz_tsj (tgt := 62) d_Processor_changeFlag_1 hx rfl ?_
      refine rz_pure (pc' := 63) d_Processor_changeFlag_62 rfl ?_
      refine rz_iconst (v := 4) d_Processor_changeFlag_63 (by decide) ?_
      refine rz_iconst (v := 0) d_Processor_changeFlag_64 (by decide) ?_
      refine rz_callVv (t := [.int 0, .int 4]) d_Processor_changeFlag_65 w_7_117 rfl rfl rfl (w.2.2.2.1 hx) (fun Sq3 q3 => ?_)
      refine rz_pure (pc' := 110) d_Processor_changeFlag_68 rfl ?_
      exact rz_vretv d_Processor_changeFlag_110 rfl q3
    | 3, _ =>
      replace hx := hx.trans (show Int32.ofInt ((40 : Int) + ((3 : Nat) : Int)) = 43 from by decide)
      refine rz_tsj (tgt := 71) d_Processor_changeFlag_1 hx rfl ?_
      refine rz_pure (pc' := 72) d_Processor_changeFlag_71 rfl ?_
      refine rz_iconst (v := 4) d_Processor_changeFlag_72 (by decide) ?_
      refine rz_iconst (v := 1) d_Processor_changeFlag_73 (by decide) ?_
      refine rz_callVv (t := [.int 1, .int 4]) d_Processor_changeFlag_74 w_7_117 rfl rfl rfl (w.2.2.2.2.1 hx) (fun Sq4 q4 => ?_)
      refine rz_pure (pc' := 110) d_Processor_changeFlag_77 rfl ?_
      exact rz_vretv d_Processor_changeFlag_110 rfl q4
    | 4, _ =>
      replace hx := hx.trans (show Int32.ofInt ((40 : Int) + ((4 : Nat) : Int)) = 44 from by decide)
      refine rz_tsj (tgt := 80) d_Processor_changeFlag_1 hx rfl ?_
      refine rz_pure (pc' := 81) d_Processor_changeFlag_80 rfl ?_
      refine rz_bipush (v := 64) d_Processor_changeFlag_81 (by decide) ?_
      refine rz_iconst (v := 0) d_Processor_changeFlag_83 (by decide) ?_
      refine rz_callVv (t := [.int 0, .int 64]) d_Processor_changeFlag_84 w_7_117 rfl rfl rfl (w.2.2.2.2.2.1 hx) (fun Sq5 q5 => ?_)
      refine rz_pure (pc' := 110) d_Processor_changeFlag_87 rfl ?_
      exact rz_vretv d_Processor_changeFlag_110 rfl q5
    | 5, _ =>
      replace hx := hx.trans (show Int32.ofInt ((40 : Int) + ((5 : Nat) : Int)) = 45 from by decide)
      refine rz_tsj (tgt := 90) d_Processor_changeFlag_1 hx rfl ?_
      refine rz_pure (pc' := 91) d_Processor_changeFlag_90 rfl ?_
      refine rz_bipush (v := 8) d_Processor_changeFlag_91 (by decide) ?_
      refine rz_iconst (v := 0) d_Processor_changeFlag_93 (by decide) ?_
      refine rz_callVv (t := [.int 0, .int 8]) d_Processor_changeFlag_94 w_7_117 rfl rfl rfl (w.2.2.2.2.2.2.1 hx) (fun Sq6 q6 => ?_)
      refine rz_pure (pc' := 110) d_Processor_changeFlag_97 rfl ?_
      exact rz_vretv d_Processor_changeFlag_110 rfl q6
    | 6, _ =>
      replace hx := hx.trans (show Int32.ofInt ((40 : Int) + ((6 : Nat) : Int)) = 46 from by decide)
      refine rz_tsj (tgt := 100) d_Processor_changeFlag_1 hx rfl ?_
      refine rz_pure (pc' := 101) d_Processor_changeFlag_100 rfl ?_
      refine rz_bipush (v := 8) d_Processor_changeFlag_101 (by decide) ?_
      refine rz_iconst (v := 1) d_Processor_changeFlag_103 (by decide) ?_
      refine rz_callVv (t := [.int 1, .int 8]) d_Processor_changeFlag_104 w_7_117 rfl rfl rfl (w.2.2.2.2.2.2.2 hx) (fun Sq7 q7 => ?_)
      refine rz_pure (pc' := 110) d_Processor_changeFlag_107 rfl ?_
      exact rz_vretv d_Processor_changeFlag_110 rfl q7
    | j + 7, h => exact absurd h (by omega)
theorem d_Processor_stack_0 : decode (rm_code mProcessor_stack) 0 = .ok (.iload_n 1, 1) := by decide +kernel
theorem d_Processor_stack_1 : decode (rm_code mProcessor_stack) 1 = .ok (.tableswitch (214) (48) (55) #[(47), (58), (72), (87), (109), (124), (163), (180)], 47) := by decide +kernel
theorem d_Processor_stack_48 : decode (rm_code mProcessor_stack) 48 = .ok (.aload_n 0, 1) := by decide +kernel
theorem d_Processor_stack_49 : decode (rm_code mProcessor_stack) 49 = .ok (.aload_n 0, 1) := by decide +kernel
theorem d_Processor_stack_50 : decode (rm_code mProcessor_stack) 50 = .ok (.getfield 30, 3) := by decide +kernel
theorem d_Processor_stack_53 : decode (rm_code mProcessor_stack) 53 = .ok (.invokevirtual 133, 3) := by decide +kernel
theorem d_Processor_stack_56 : decode (rm_code mProcessor_stack) 56 = .ok (.goto (159), 3) := by decide +kernel
theorem d_Processor_stack_59 : decode (rm_code mProcessor_stack) 59 = .ok (.aload_n 0, 1) := by decide +kernel
theorem d_Processor_stack_60 : decode (rm_code mProcessor_stack) 60 = .ok (.aload_n 0, 1) := by decide +kernel
theorem d_Processor_stack_61 : decode (rm_code mProcessor_stack) 61 = .ok (.getfield 27, 3) := by decide +kernel
theorem d_Processor_stack_64 : decode (rm_code mProcessor_stack) 64 = .ok (.bipush (48), 2) := by decide +kernel
theorem d_Processor_stack_66 : decode (rm_code mProcessor_stack) 66 = .ok (.ior, 1) := by decide +kernel
theorem d_Processor_stack_67 : decode (rm_code mProcessor_stack) 67 = .ok (.invokevirtual 133, 3) := by decide +kernel
theorem d_Processor_stack_70 : decode (rm_code mProcessor_stack) 70 = .ok (.goto (145), 3) := by decide +kernel
theorem d_Processor_stack_73 : decode (rm_code mProcessor_stack) 73 = .ok (.aload_n 0, 1) := by decide +kernel
theorem d_Processor_stack_74 : decode (rm_code mProcessor_stack) 74 = .ok (.aload_n 0, 1) := by decide +kernel
theorem d_Processor_stack_75 : decode (rm_code mProcessor_stack) 75 = .ok (.aload_n 0, 1) := by decide +kernel
theorem d_Processor_stack_76 : decode (rm_code mProcessor_stack) 76 = .ok (.invokevirtual 130, 3) := by decide +kernel
theorem d_Processor_stack_79 : decode (rm_code mProcessor_stack) 79 = .ok (.invokevirtual 108, 3) := by decide +kernel
theorem d_Processor_stack_82 : decode (rm_code mProcessor_stack) 82 = .ok (.putfield 30, 3) := by decide +kernel
theorem d_Processor_stack_85 : decode (rm_code mProcessor_stack) 85 = .ok (.goto (130), 3) := by decide +kernel
theorem d_Processor_stack_88 : decode (rm_code mProcessor_stack) 88 = .ok (.aload_n 0, 1) := by decide +kernel
theorem d_Processor_stack_89 : decode (rm_code mProcessor_stack) 89 = .ok (.aload_n 0, 1) := by decide +kernel
theorem d_Processor_stack_90 : decode (rm_code mProcessor_stack) 90 = .ok (.invokevirtual 130, 3) := by decide +kernel
theorem d_Processor_stack_93 : decode (rm_code mProcessor_stack) 93 = .ok (.bipush (-49), 2) := by decide +kernel
theorem d_Processor_stack_95 : decode (rm_code mProcessor_stack) 95 = .ok (.iand, 1) := by decide +kernel
theorem d_Processor_stack_96 : decode (rm_code mProcessor_stack) 96 = .ok (.aload_n 0, 1) := by decide +kernel
theorem d_Processor_stack_97 : decode (rm_code mProcessor_stack) 97 = .ok (.getfield 27, 3) := by decide +kernel
theorem d_Processor_stack_100 : decode (rm_code mProcessor_stack) 100 = .ok (.bipush (48), 2) := by decide +kernel
theorem d_Processor_stack_102 : decode (rm_code mProcessor_stack) 102 = .ok (.iand, 1) := by decide +kernel
theorem d_Processor_stack_103 : decode (rm_code mProcessor_stack) 103 = .ok (.ior, 1) := by decide +kernel
theorem d_Processor_stack_104 : decode (rm_code mProcessor_stack) 104 = .ok (.putfield 27, 3) := by decide +kernel
theorem d_Processor_stack_107 : decode (rm_code mProcessor_stack) 107 = .ok (.goto (108), 3) := by decide +kernel
theorem d_Processor_stack_110 : decode (rm_code mProcessor_stack) 110 = .ok (.aload_n 0, 1) := by decide +kernel
theorem d_Processor_stack_111 : decode (rm_code mProcessor_stack) 111 = .ok (.aload_n 0, 1) := by decide +kernel
theorem d_Processor_stack_112 : decode (rm_code mProcessor_stack) 112 = .ok (.getfield 69, 3) := by decide +kernel
theorem d_Processor_stack_115 : decode (rm_code mProcessor_stack) 115 = .ok (.sipush (2047), 3) := by decide +kernel
theorem d_Processor_stack_118 : decode (rm_code mProcessor_stack) 118 = .ok (.iand, 1) := by decide +kernel
theorem d_Processor_stack_119 : decode (rm_code mProcessor_stack) 119 = .ok (.putfield 39, 3) := by decide +kernel
theorem d_Processor_stack_122 : decode (rm_code mProcessor_stack) 122 = .ok (.goto (93), 3) := by decide +kernel
theorem d_Processor_stack_125 : decode (rm_code mProcessor_stack) 125 = .ok (.aload_n 0, 1) := by decide +kernel
theorem d_Processor_stack_126 : decode (rm_code mProcessor_stack) 126 = .ok (.getfield 39, 3) := by decide +kernel
theorem d_Processor_stack_129 : decode (rm_code mProcessor_stack) 129 = .ok (.iconst 1, 1) := by decide +kernel
theorem d_Processor_stack_130 : decode (rm_code mProcessor_stack) 130 = .ok (.isub, 1) := by decide +kernel
theorem d_Processor_stack_131 : decode (rm_code mProcessor_stack) 131 = .ok (.sipush (2047), 3) := by decide +kernel
theorem d_Processor_stack_134 : decode (rm_code mProcessor_stack) 134 = .ok (.iand, 1) := by decide +kernel
theorem d_Processor_stack_135 : decode (rm_code mProcessor_stack) 135 = .ok (.istore_n 2, 1) := by decide +kernel
theorem d_Processor_stack_136 : decode (rm_code mProcessor_stack) 136 = .ok (.aload_n 0, 1) := by decide +kernel
theorem d_Processor_stack_137 : decode (rm_code mProcessor_stack) 137 = .ok (.iload_n 2, 1) := by decide +kernel
theorem d_Processor_stack_138 : decode (rm_code mProcessor_stack) 138 = .ok (.bipush (8), 2) := by decide +kernel
theorem d_Processor_stack_140 : decode (rm_code mProcessor_stack) 140 = .ok (.ishr, 1) := by decide +kernel
theorem d_Processor_stack_141 : decode (rm_code mProcessor_stack) 141 = .ok (.invokevirtual 133, 3) := by decide +kernel
theorem d_Processor_stack_144 : decode (rm_code mProcessor_stack) 144 = .ok (.aload_n 0, 1) := by decide +kernel
theorem d_Processor_stack_145 : decode (rm_code mProcessor_stack) 145 = .ok (.iload_n 2, 1) := by decide +kernel
theorem d_Processor_stack_146 : decode (rm_code mProcessor_stack) 146 = .ok (.invokevirtual 133, 3) := by decide +kernel
theorem d_Processor_stack_149 : decode (rm_code mProcessor_stack) 149 = .ok (.aload_n 0, 1) := by decide +kernel
theorem d_Processor_stack_150 : decode (rm_code mProcessor_stack) 150 = .ok (.aload_n 0, 1) := by decide +kernel
theorem d_Processor_stack_151 : decode (rm_code mProcessor_stack) 151 = .ok (.getfield 69, 3) := by decide +kernel
theorem d_Processor_stack_154 : decode (rm_code mProcessor_stack) 154 = .ok (.sipush (2047), 3) := by decide +kernel
theorem d_Processor_stack_157 : decode (rm_code mProcessor_stack) 157 = .ok (.iand, 1) := by decide +kernel
theorem d_Processor_stack_158 : decode (rm_code mProcessor_stack) 158 = .ok (.putfield 39, 3) := by decide +kernel
theorem d_Processor_stack_161 : decode (rm_code mProcessor_stack) 161 = .ok (.goto (54), 3) := by decide +kernel
theorem d_Processor_stack_164 : decode (rm_code mProcessor_stack) 164 = .ok (.aload_n 0, 1) := by decide +kernel
theorem d_Processor_stack_165 : decode (rm_code mProcessor_stack) 165 = .ok (.aload_n 0, 1) := by decide +kernel
theorem d_Processor_stack_166 : decode (rm_code mProcessor_stack) 166 = .ok (.invokevirtual 136, 3) := by decide +kernel
theorem d_Processor_stack_169 : decode (rm_code mProcessor_stack) 169 = .ok (.iconst 1, 1) := by decide +kernel
theorem d_Processor_stack_170 : decode (rm_code mProcessor_stack) 170 = .ok (.iadd, 1) := by decide +kernel
theorem d_Processor_stack_171 : decode (rm_code mProcessor_stack) 171 = .ok (.sipush (2047), 3) := by decide +kernel
theorem d_Processor_stack_174 : decode (rm_code mProcessor_stack) 174 = .ok (.iand, 1) := by decide +kernel
theorem d_Processor_stack_175 : decode (rm_code mProcessor_stack) 175 = .ok (.putfield 39, 3) := by decide +kernel
theorem d_Processor_stack_178 : decode (rm_code mProcessor_stack) 178 = .ok (.goto (37), 3) := by decide +kernel
theorem d_Processor_stack_181 : decode (rm_code mProcessor_stack) 181 = .ok (.aload_n 0, 1) := by decide +kernel
theorem d_Processor_stack_182 : decode (rm_code mProcessor_stack) 182 = .ok (.aload_n 0, 1) := by decide +kernel
theorem d_Processor_stack_183 : decode (rm_code mProcessor_stack) 183 = .ok (.invokevirtual 130, 3) := by decide +kernel
theorem d_Processor_stack_186 : decode (rm_code mProcessor_stack) 186 = .ok (.bipush (-49), 2) := by decide +kernel
theorem d_Processor_stack_188 : decode (rm_code mProcessor_stack) 188 = .ok (.iand, 1) := by decide +kernel
theorem d_Processor_stack_189 : decode (rm_code mProcessor_stack) 189 = .ok (.aload_n 0, 1) := by decide +kernel
theorem d_Processor_stack_190 : decode (rm_code mProcessor_stack) 190 = .ok (.getfield 27, 3) := by decide +kernel
theorem d_Processor_stack_193 : decode (rm_code mProcessor_stack) 193 = .ok (.bipush (48), 2) := by decide +kernel
theorem d_Processor_stack_195 : decode (rm_code mProcessor_stack) 195 = .ok (.iand, 1) := by decide +kernel
theorem d_Processor_stack_196 : decode (rm_code mProcessor_stack) 196 = .ok (.ior, 1) := by decide +kernel
theorem d_Processor_stack_197 : decode (rm_code mProcessor_stack) 197 = .ok (.putfield 27, 3) := by decide +kernel
theorem d_Processor_stack_200 : decode (rm_code mProcessor_stack) 200 = .ok (.aload_n 0, 1) := by decide +kernel
theorem d_Processor_stack_201 : decode (rm_code mProcessor_stack) 201 = .ok (.aload_n 0, 1) := by decide +kernel
theorem d_Processor_stack_202 : decode (rm_code mProcessor_stack) 202 = .ok (.invokevirtual 136, 3) := by decide +kernel
theorem d_Processor_stack_205 : decode (rm_code mProcessor_stack) 205 = .ok (.sipush (2047), 3) := by decide +kernel
theorem d_Processor_stack_208 : decode (rm_code mProcessor_stack) 208 = .ok (.iand, 1) := by decide +kernel
theorem d_Processor_stack_209 : decode (rm_code mProcessor_stack) 209 = .ok (.putfield 39, 3) := by decide +kernel
theorem d_Processor_stack_212 : decode (rm_code mProcessor_stack) 212 = .ok (.goto (3), 3) := by decide +kernel
theorem d_Processor_stack_215 : decode (rm_code mProcessor_stack) 215 = .ok (.return_, 1) := by decide +kernel
theorem p_Processor_stack_0 {S : rz_S} {K : rz_S → Prop} {a1 : Int32} (w : ((a1.toInt < 48 ∨ 55 < a1.toInt → K S) ∧ (a1 = 48 → rz_ev mProcessor_push [.ref 37, .int (S.2 37 0)] S (rz_v (fun Sq1 => K Sq1))) ∧ (a1 = 49 → rz_ev mProcessor_push [.ref 37, .int ((S.2 37 4) ||| 48)] S (rz_v (fun Sq2 => K Sq2))) ∧ (a1 = 50 → rz_ev mProcessor_pull [.ref 37] S (rz_i (fun xq3 Sq3 => rz_ev mProcessor_marked [.ref 37, .int xq3] Sq3 (rz_i (fun xq4 Sq4 => K (rz_uI Sq4 37 0 xq4)))))) ∧ (a1 = 51 → rz_ev mProcessor_pull [.ref 37] S (rz_i (fun xq5 Sq5 => K (rz_uI Sq5 37 4 ((xq5 &&& (-49)) ||| ((Sq5.2 37 4) &&& 48)))))) ∧ (a1 = 52 → K (rz_uI S 37 5 ((S.2 37 8) &&& 2047))) ∧ (a1 = 53 → rz_ev mProcessor_push [.ref 37, .int ((((S.2 37 5) - 1) &&& 2047) >>> ((8 : Int32) &&& 31))] S (rz_v (fun Sq6 => rz_ev mProcessor_push [.ref 37, .int (((S.2 37 5) - 1) &&& 2047)] Sq6 (rz_v (fun Sq7 => K (rz_uI Sq7 37 5 ((Sq7.2 37 8) &&& 2047))))))) ∧ (a1 = 54 → rz_ev mProcessor_pullTwo [.ref 37] S (rz_i (fun xq8 Sq8 => K (rz_uI Sq8 37 5 ((xq8 + 1) &&& 2047))))) ∧ (a1 = 55 → rz_ev mProcessor_pull [.ref 37] S (rz_i (fun xq9 Sq9 => rz_ev mProcessor_pullTwo [.ref 37] (rz_uI Sq9 37 4 ((xq9 &&& (-49)) ||| ((Sq9.2 37 4) &&& 48))) (rz_i (fun xq10 Sq10 => K (rz_uI Sq10 37 5 (xq10 &&& 2047))))))))) : rz mProcessor_stack 0 [(0, .ref 37), (1, .int a1)] [] S (rz_v K) := by
  refine rz_pure (pc' := 1) d_Processor_stack_0 rfl ?_
  refine rz_tsw (n := 8) (lo := 48) (tgt := 215) d_Processor_stack_1 rfl rfl (fun b0 => ?_) (fun j hj hx => ?_)
  · skip
    exact rz_vretv d_Processor_stack_215 rfl (w.1 b0)
  · match j, hj with
    | 0, _ =>
      replace hx := hx.trans (show Int32.ofInt ((48 : Int) + ((0 : Nat) : Int)) = 48 from by decide)
      refine rz_tsj (tgt := 48) d_Processor_stack_1 hx rfl ?_
      refine rz_pure (pc' := 49) d_Processor_stack_48 rfl ?_
      refine rz_pure (pc' := 50) d_Processor_stack_49 rfl ?_
      refine rz_getiv (v := S.2 37 0) d_Processor_stack_50 f_7_30 rfl rfl rfl ?_
      refine rz_callVv (t := [.int (S.2 37 0)]) d_Processor_stack_53 w_7_133 rfl rfl rfl (w.2.1 hx) (fun Sq1 q1 => ?_)
      refine rz_pure (pc' := 215) d_Processor_stack_56 rfl ?_
      exact rz_vretv d_Processor_stack_215 rfl q1
    | 1, _ =>
      replace hx := hx.trans (show Int32.ofInt ((48 : Int) + ((1 : Nat) : Int)) = 49 from by decide)
      refine rz_tsj (tgt := 59) d_Processor_stack_1 hx rfl ?_
      refine rz_pure (pc' := 60) d_Processor_stack_59 rfl ?_
      refine rz_pure (pc' := 61) d_Processor_stack_60 rfl ?_
      refine rz_getiv (v := S.2 37 4) d_Processor_stack_61 f_7_27 rfl rfl rfl ?_
      refine rz_bipush (v := 48) d_Processor_stack_64 (by decide) ?_
      refine rz_ior d_Processor_stack_66 ?_
      refine rz_callVv (t := [.int ((S.2 37 4) ||| 48)]) d_Processor_stack_67 w_7_133 rfl rfl rfl (w.2.2.1 hx) (fun Sq2 q2 => ?_)
      refine rz_pure (pc' := 215) d_Processor_stack_70 rfl ?_
      exact rz_vretv d_Processor_stack_215 rfl q2
    | 2, _ =>
      replace hx := hx.trans (show Int32.ofInt ((48 : Int) + ((2 : Nat) : Int)) = 50 from by decide)
      refine rz_tsj (tgt := 73) d_Processor_stack_1 hx rfl ?_
      refine rz_pure (pc' := 74) d_Processor_stack_73 rfl ?_
      refine rz_pure (pc' := 75) d_Processor_stack_74 rfl ?_
      refine rz_pure (pc' := 76) d_Processor_stack_75 rfl ?_
      refine rz_callVi (t := []) d_Processor_stack_76 w_7_130 rfl rfl rfl (w.2.2.2.1 hx) (fun xq3 Sq3 q3 => ?_)
      refine rz_callVi (t := [.int xq3]) d_Processor_stack_79 w_7_108 rfl rfl rfl q3 (fun xq4 Sq4 q4 => ?_)
      refine rz_puti d_Processor_stack_82 f_7_30 rfl rfl rfl ?_
      refine rz_pure (pc' := 215) d_Processor_stack_85 rfl ?_
      exact rz_vretv d_Processor_stack_215 rfl q4
    | 3, _ =>
      replace hx := hx.trans (show Int32.ofInt ((48 : Int) + ((3 : Nat) : Int)) = 51 from by decide)
      refine rz_tsj (tgt := 88) d_Processor_stack_1 hx rfl ?_
      refine rz_pure (pc' := 89) d_Processor_stack_88 rfl ?_
      refine rz_pure (pc' := 90) d_Processor_stack_89 rfl ?_
      refine rz_callVi (t := []) d_Processor_stack_90 w_7_130 rfl rfl rfl (w.2.2.2.2.1 hx) (fun xq5 Sq5 q5 => ?_)
      refine rz_bipush (v := -49) d_Processor_stack_93 (by decide) ?_
      refine rz_iand d_Processor_stack_95 ?_
      refine rz_pure (pc' := 97) d_Processor_stack_96 rfl ?_
      refine rz_getiv (v := Sq5.2 37 4) d_Processor_stack_97 f_7_27 rfl rfl rfl ?_
      refine rz_bipush (v := 48) d_Processor_stack_100 (by decide) ?_
      refine rz_iand d_Processor_stack_102 ?_
      refine rz_ior d_Processor_stack_103 ?_
      refine rz_puti d_Processor_stack_104 f_7_27 rfl rfl rfl ?_
      refine rz_pure (pc' := 215) d_Processor_stack_107 rfl ?_
      exact rz_vretv d_Processor_stack_215 rfl q5
    | 4, _ =>
      replace hx := hx.trans (show Int32.ofInt ((48 : Int) + ((4 : Nat) : Int)) = 52 from by decide)
      refine rz_tsj (tgt := 110) d_Processor_stack_1 hx rfl ?_
      refine rz_pure (pc' := 111) d_Processor_stack_110 rfl ?_
      refine rz_pure (pc' := 112) d_Processor_stack_111 rfl ?_
      refine rz_getiv (v := S.2 37 8) d_Processor_stack_112 f_7_69 rfl rfl rfl ?_
      refine rz_sipush (v := 2047) d_Processor_stack_115 (by decide) ?_
      refine rz_iand d_Processor_stack_118 ?_
      refine rz_puti d_Processor_stack_119 f_7_39 rfl rfl rfl ?_
      refine rz_pure (pc' := 215) d_Processor_stack_122 rfl ?_
      exact rz_vretv d_Processor_stack_215 rfl (w.2.2.2.2.2.1 hx)
    | 5, _ =>
      replace hx := hx.trans (show Int32.ofInt ((48 : Int) + ((5 : Nat) : Int)) = 53 from by decide)
      refine rz_tsj (tgt := 125) d_Processor_stack_1 hx rfl ?_
      refine rz_pure (pc' := 126) d_Processor_stack_125 rfl ?_
      refine rz_getiv (v := S.2 37 5) d_Processor_stack_126 f_7_39 rfl rfl rfl ?_
      refine rz_iconst (v := 1) d_Processor_stack_129 (by decide) ?_
      refine rz_isub d_Processor_stack_130 ?_
      refine rz_sipush (v := 2047) d_Processor_stack_131 (by decide) ?_
      refine rz_iand d_Processor_stack_134 ?_
      refine rz_pure (pc' := 136) (l' := [(2, .int (((S.2 37 5) - 1) &&& 2047)), (0, .ref 37), (1, .int a1)]) d_Processor_stack_135 rfl ?_
      refine rz_pure (pc' := 137) d_Processor_stack_136 rfl ?_
      refine rz_pure (pc' := 138) d_Processor_stack_137 rfl ?_
      refine rz_bipush (v := 8) d_Processor_stack_138 (by decide) ?_
      refine rz_ishr d_Processor_stack_140 ?_
      refine rz_callVv (t := [.int ((((S.2 37 5) - 1) &&& 2047) >>> ((8 : Int32) &&& 31))]) d_Processor_stack_141 w_7_133 rfl rfl rfl (w.2.2.2.2.2.2.1 hx) (fun Sq6 q6 => ?_)
      refine rz_pure (pc' := 145) d_Processor_stack_144 rfl ?_
      refine rz_pure (pc' := 146) d_Processor_stack_145 rfl ?_
      refine rz_callVv (t := [.int (((S.2 37 5) - 1) &&& 2047)]) d_Processor_stack_146 w_7_133 rfl rfl rfl q6 (fun Sq7 q7 => ?_)
      refine rz_pure (pc' := 150) d_Processor_stack_149 rfl ?_
      refine rz_pure (pc' := 151) d_Processor_stack_150 rfl ?_
      refine rz_getiv (v := Sq7.2 37 8) d_Processor_stack_151 f_7_69 rfl rfl rfl ?_
      refine rz_sipush (v := 2047) d_Processor_stack_154 (by decide) ?_
      refine rz_iand d_Processor_stack_157 ?_
      refine rz_puti d_Processor_stack_158 f_7_39 rfl rfl rfl ?_
      refine rz_pure (pc' := 215) d_Processor_stack_161 rfl ?_
      exact rz_vretv d_Processor_stack_215 rfl q7
    | 6, _ =>
      replace hx := hx.trans (show Int32.ofInt ((48 : Int) + ((6 : Nat) : Int)) = 54 from by decide)
      refine rz_tsj (tgt := 164) d_Processor_stack_1 hx rfl ?_
      refine rz_pure (pc' := 165) d_Processor_stack_164 rfl ?_
      refine rz_pure (pc' := 166) d_Processor_stack_165 rfl ?_
      refine rz_callVi (t := []) d_Processor_stack_166 w_7_136 rfl rfl rfl (w.2.2.2.2.2.2.2.1 hx) (fun xq8 Sq8 q8 => ?_)
      refine rz_iconst (v := 1) d_Processor_stack_169 (by decide) ?_
      refine rz_iadd d_Processor_stack_170 ?_
      refine rz_sipush (v := 2047) d_Processor_stack_171 (by decide) ?_
      refine rz_iand d_Processor_stack_174 ?_
      refine rz_puti d_Processor_stack_175 f_7_39 rfl rfl rfl ?_
      refine rz_pure (pc' := 215) d_Processor_stack_178 rfl ?_
      exact rz_vretv d_Processor_stack_215 rfl q8
    | 7, _ =>
      replace hx := hx.trans (show Int32.ofInt ((48 : Int) + ((7 : Nat) : Int)) = 55 from by decide)
      refine rz_tsj (tgt := 181) d_Processor_stack_1 hx rfl ?_
      refine rz_pure (pc' := 182) d_Processor_stack_181 rfl ?_
      refine rz_pure (pc' := 183) d_Processor_stack_182 rfl ?_
      refine rz_callVi (t := []) d_Processor_stack_183 w_7_130 rfl rfl rfl (w.2.2.2.2.2.2.2.2 hx) (fun xq9 Sq9 q9 => ?_)
      refine rz_bipush (v := -49) d_Processor_stack_186 (by decide) ?_
      refine rz_iand d_Processor_stack_188 ?_
      refine rz_pure (pc' := 190) d_Processor_stack_189 rfl ?_
      refine rz_getiv (v := Sq9.2 37 4) d_Processor_stack_190 f_7_27 rfl rfl rfl ?_
      refine rz_bipush (v := 48) d_Processor_stack_193 (by decide) ?_
      refine rz_iand d_Processor_stack_195 ?_
      refine rz_ior d_Processor_stack_196 ?_
      refine rz_puti d_Processor_stack_197 f_7_27 rfl rfl rfl ?_
      refine rz_pure (pc' := 201) d_Processor_stack_200 rfl ?_
      refine rz_pure (pc' := 202) d_Processor_stack_201 rfl ?_
      refine rz_callVi (t := []) d_Processor_stack_202 w_7_136 rfl rfl rfl q9 (fun xq10 Sq10 q10 => ?_)
      refine rz_sipush (v := 2047) d_Processor_stack_205 (by decide) ?_
      refine rz_iand d_Processor_stack_208 ?_
      refine rz_puti d_Processor_stack_209 f_7_39 rfl rfl rfl ?_
      refine rz_pure (pc' := 215) d_Processor_stack_212 rfl ?_
      exact rz_vretv d_Processor_stack_215 rfl q10
    | j + 8, h => exact absurd h (by omega)
theorem d_Processor_push_0 : decode (rm_code mProcessor_push) 0 = .ok (.aload_n 0, 1) := by decide +kernel
theorem d_Processor_push_1 : decode (rm_code mProcessor_push) 1 = .ok (.getfield 9, 3) := by decide +kernel
theorem d_Processor_push_4 : decode (rm_code mProcessor_push) 4 = .ok (.sipush (256), 3) := by decide +kernel
theorem d_Processor_push_7 : decode (rm_code mProcessor_push) 7 = .ok (.aload_n 0, 1) := by decide +kernel
theorem d_Processor_push_8 : decode (rm_code mProcessor_push) 8 = .ok (.getfield 23, 3) := by decide +kernel
theorem d_Processor_push_11 : decode (rm_code mProcessor_push) 11 = .ok (.sipush (255), 3) := by decide +kernel
theorem d_Processor_push_14 : decode (rm_code mProcessor_push) 14 = .ok (.iand, 1) := by decide +kernel
theorem d_Processor_push_15 : decode (rm_code mProcessor_push) 15 = .ok (.iadd, 1) := by decide +kernel
theorem d_Processor_push_16 : decode (rm_code mProcessor_push) 16 = .ok (.iload_n 1, 1) := by decide +kernel
theorem d_Processor_push_17 : decode (rm_code mProcessor_push) 17 = .ok (.sipush (255), 3) := by decide +kernel
theorem d_Processor_push_20 : decode (rm_code mProcessor_push) 20 = .ok (.iand, 1) := by decide +kernel
theorem d_Processor_push_21 : decode (rm_code mProcessor_push) 21 = .ok (.iastore, 1) := by decide +kernel
theorem d_Processor_push_22 : decode (rm_code mProcessor_push) 22 = .ok (.aload_n 0, 1) := by decide +kernel
theorem d_Processor_push_23 : decode (rm_code mProcessor_push) 23 = .ok (.aload_n 0, 1) := by decide +kernel
theorem d_Processor_push_24 : decode (rm_code mProcessor_push) 24 = .ok (.getfield 23, 3) := by decide +kernel
theorem d_Processor_push_27 : decode (rm_code mProcessor_push) 27 = .ok (.iconst 1, 1) := by decide +kernel
theorem d_Processor_push_28 : decode (rm_code mProcessor_push) 28 = .ok (.isub, 1) := by decide +kernel
theorem d_Processor_push_29 : decode (rm_code mProcessor_push) 29 = .ok (.sipush (255), 3) := by decide +kernel
theorem d_Processor_push_32 : decode (rm_code mProcessor_push) 32 = .ok (.iand, 1) := by decide +kernel
theorem d_Processor_push_33 : decode (rm_code mProcessor_push) 33 = .ok (.putfield 23, 3) := by decide +kernel
theorem d_Processor_push_36 : decode (rm_code mProcessor_push) 36 = .ok (.return_, 1) := by decide +kernel
theorem p_Processor_push_0 {S : rz_S} {K : rz_S → Prop} {a1 : Int32} (w : rx_in (256 + ((S.2 37 3) &&& 255)) 2048 = true ∧ K (rz_uI (rz_fA S 38 (upd (S.1 38) ((256 + ((S.2 37 3) &&& 255)).toNatClampNeg) (a1 &&& 255))) 37 3 (((S.2 37 3) - 1) &&& 255))) : rz mProcessor_push 0 [(0, .ref 37), (1, .int a1)] [] S (rz_v K) := by
  refine rz_pure (pc' := 1) d_Processor_push_0 rfl ?_
  refine rz_getr d_Processor_push_1 f_7_9 rfl rfl ?_
  refine rz_sipush (v := 256) d_Processor_push_4 (by decide) ?_
  refine rz_pure (pc' := 8) d_Processor_push_7 rfl ?_
  refine rz_getiv (v := S.2 37 3) d_Processor_push_8 f_7_23 rfl rfl rfl ?_
  refine rz_sipush (v := 255) d_Processor_push_11 (by decide) ?_
  refine rz_iand d_Processor_push_14 ?_
  refine rz_iadd d_Processor_push_15 ?_
  refine rz_pure (pc' := 17) d_Processor_push_16 rfl ?_
  refine rz_sipush (v := 255) d_Processor_push_17 (by decide) ?_
  refine rz_iand d_Processor_push_20 ?_
  refine rz_iastv (F := S.1 38) (i := (256 + ((S.2 37 3) &&& 255)).toNatClampNeg) d_Processor_push_21 rfl w.1 rfl rfl ?_
  refine rz_pure (pc' := 23) d_Processor_push_22 rfl ?_
  refine rz_pure (pc' := 24) d_Processor_push_23 rfl ?_
  refine rz_getiv (v := S.2 37 3) d_Processor_push_24 f_7_23 rfl rfl rfl ?_
  refine rz_iconst (v := 1) d_Processor_push_27 (by decide) ?_
  refine rz_isub d_Processor_push_28 ?_
  refine rz_sipush (v := 255) d_Processor_push_29 (by decide) ?_
  refine rz_iand d_Processor_push_32 ?_
  refine rz_puti d_Processor_push_33 f_7_23 rfl rfl rfl ?_
  exact rz_vretv d_Processor_push_36 rfl w.2
theorem d_Processor_pull_0 : decode (rm_code mProcessor_pull) 0 = .ok (.aload_n 0, 1) := by decide +kernel
theorem d_Processor_pull_1 : decode (rm_code mProcessor_pull) 1 = .ok (.aload_n 0, 1) := by decide +kernel
theorem d_Processor_pull_2 : decode (rm_code mProcessor_pull) 2 = .ok (.getfield 23, 3) := by decide +kernel
theorem d_Processor_pull_5 : decode (rm_code mProcessor_pull) 5 = .ok (.iconst 1, 1) := by decide +kernel
theorem d_Processor_pull_6 : decode (rm_code mProcessor_pull) 6 = .ok (.iadd, 1) := by decide +kernel
theorem d_Processor_pull_7 : decode (rm_code mProcessor_pull) 7 = .ok (.sipush (255), 3) := by decide +kernel
theorem d_Processor_pull_10 : decode (rm_code mProcessor_pull) 10 = .ok (.iand, 1) := by decide +kernel
theorem d_Processor_pull_11 : decode (rm_code mProcessor_pull) 11 = .ok (.putfield 23, 3) := by decide +kernel
theorem d_Processor_pull_14 : decode (rm_code mProcessor_pull) 14 = .ok (.aload_n 0, 1) := by decide +kernel
theorem d_Processor_pull_15 : decode (rm_code mProcessor_pull) 15 = .ok (.getfield 9, 3) := by decide +kernel
theorem d_Processor_pull_18 : decode (rm_code mProcessor_pull) 18 = .ok (.sipush (256), 3) := by decide +kernel
theorem d_Processor_pull_21 : decode (rm_code mProcessor_pull) 21 = .ok (.aload_n 0, 1) := by decide +kernel
theorem d_Processor_pull_22 : decode (rm_code mProcessor_pull) 22 = .ok (.getfield 23, 3) := by decide +kernel
theorem d_Processor_pull_25 : decode (rm_code mProcessor_pull) 25 = .ok (.sipush (255), 3) := by decide +kernel
theorem d_Processor_pull_28 : decode (rm_code mProcessor_pull) 28 = .ok (.iand, 1) := by decide +kernel
theorem d_Processor_pull_29 : decode (rm_code mProcessor_pull) 29 = .ok (.iadd, 1) := by decide +kernel
theorem d_Processor_pull_30 : decode (rm_code mProcessor_pull) 30 = .ok (.iaload, 1) := by decide +kernel
theorem d_Processor_pull_31 : decode (rm_code mProcessor_pull) 31 = .ok (.ireturn, 1) := by decide +kernel
theorem p_Processor_pull_0 {S : rz_S} {K : Int32 → rz_S → Prop} (w : rx_in (256 + ((((S.2 37 3) + 1) &&& 255) &&& 255)) 2048 = true ∧ K (S.1 38 ((256 + ((((S.2 37 3) + 1) &&& 255) &&& 255)).toNatClampNeg)) (rz_uI S 37 3 (((S.2 37 3) + 1) &&& 255))) : rz mProcessor_pull 0 [(0, .ref 37)] [] S (rz_i K) := by
  refine rz_pure (pc' := 1) d_Processor_pull_0 rfl ?_
  refine rz_pure (pc' := 2) d_Processor_pull_1 rfl ?_
  refine rz_getiv (v := S.2 37 3) d_Processor_pull_2 f_7_23 rfl rfl rfl ?_
  refine rz_iconst (v := 1) d_Processor_pull_5 (by decide) ?_
  refine rz_iadd d_Processor_pull_6 ?_
  refine rz_sipush (v := 255) d_Processor_pull_7 (by decide) ?_
  refine rz_iand d_Processor_pull_10 ?_
  refine rz_puti d_Processor_pull_11 f_7_23 rfl rfl rfl ?_
  refine rz_pure (pc' := 15) d_Processor_pull_14 rfl ?_
  refine rz_getr d_Processor_pull_15 f_7_9 rfl rfl ?_
  refine rz_sipush (v := 256) d_Processor_pull_18 (by decide) ?_
  refine rz_pure (pc' := 22) d_Processor_pull_21 rfl ?_
  refine rz_getiv (v := ((S.2 37 3) + 1) &&& 255) d_Processor_pull_22 f_7_23 rfl rfl rz_uI_s ?_
  refine rz_sipush (v := 255) d_Processor_pull_25 (by decide) ?_
  refine rz_iand d_Processor_pull_28 ?_
  refine rz_iadd d_Processor_pull_29 ?_
  refine rz_ialdv (F := S.1 38) (i := (256 + ((((S.2 37 3) + 1) &&& 255) &&& 255)).toNatClampNeg) d_Processor_pull_30 rfl w.1 rfl rfl ?_
  exact rz_ireti d_Processor_pull_31 rfl rfl w.2
theorem d_Processor_pullTwo_0 : decode (rm_code mProcessor_pullTwo) 0 = .ok (.aload_n 0, 1) := by decide +kernel
theorem d_Processor_pullTwo_1 : decode (rm_code mProcessor_pullTwo) 1 = .ok (.invokevirtual 130, 3) := by decide +kernel
theorem d_Processor_pullTwo_4 : decode (rm_code mProcessor_pullTwo) 4 = .ok (.istore_n 1, 1) := by decide +kernel
theorem d_Processor_pullTwo_5 : decode (rm_code mProcessor_pullTwo) 5 = .ok (.iload_n 1, 1) := by decide +kernel
theorem d_Processor_pullTwo_6 : decode (rm_code mProcessor_pullTwo) 6 = .ok (.aload_n 0, 1) := by decide +kernel
theorem d_Processor_pullTwo_7 : decode (rm_code mProcessor_pullTwo) 7 = .ok (.invokevirtual 130, 3) := by decide +kernel
theorem d_Processor_pullTwo_10 : decode (rm_code mProcessor_pullTwo) 10 = .ok (.bipush (8), 2) := by decide +kernel
theorem d_Processor_pullTwo_12 : decode (rm_code mProcessor_pullTwo) 12 = .ok (.ishl, 1) := by decide +kernel
theorem d_Processor_pullTwo_13 : decode (rm_code mProcessor_pullTwo) 13 = .ok (.ior, 1) := by decide +kernel
theorem d_Processor_pullTwo_14 : decode (rm_code mProcessor_pullTwo) 14 = .ok (.ireturn, 1) := by decide +kernel
theorem p_Processor_pullTwo_0 {S : rz_S} {K : Int32 → rz_S → Prop} (w : rz_ev mProcessor_pull [.ref 37] S (rz_i (fun xq1 Sq1 => rz_ev mProcessor_pull [.ref 37] Sq1 (rz_i (fun xq2 Sq2 => K (xq1 ||| (xq2 <<< ((8 : Int32) &&& 31))) Sq2))))) : rz mProcessor_pullTwo 0 [(0, .ref 37)] [] S (rz_i K) := by
  refine rz_pure (pc' := 1) d_Processor_pullTwo_0 rfl ?_
  refine rz_callVi (t := []) d_Processor_pullTwo_1 w_7_130 rfl rfl rfl w (fun xq1 Sq1 q1 => ?_)
  refine rz_pure (pc' := 5) (l' := [(1, .int xq1), (0, .ref 37)]) d_Processor_pullTwo_4 rfl ?_
  refine rz_pure (pc' := 6) d_Processor_pullTwo_5 rfl ?_
  refine rz_pure (pc' := 7) d_Processor_pullTwo_6 rfl ?_
  refine rz_callVi (t := []) d_Processor_pullTwo_7 w_7_130 rfl rfl rfl q1 (fun xq2 Sq2 q2 => ?_)
  refine rz_bipush (v := 8) d_Processor_pullTwo_10 (by decide) ?_
  refine rz_ishl d_Processor_pullTwo_12 ?_
  refine rz_ior d_Processor_pullTwo_13 ?_
  exact rz_ireti d_Processor_pullTwo_14 rfl rfl q2
theorem p_Processor_reset_0 {S : rz_S} {K : rz_S → Prop} (w : rz_ev mArr_fill [.ref 38, .int 0] S (rz_v (fun Sq1 => rz_ev mProcessor_begin [.ref 37, .int 0] Sq1 (rz_v (fun Sq2 => K (rz_uI (rz_uI Sq2 37 3 0) 37 4 0)))))) : rz mProcessor_reset 0 [(0, .ref 37)] [] S (rz_v K) := by
  refine rz_pure (pc' := 1) d_Processor_reset_0 rfl ?_
  refine rz_getr d_Processor_reset_1 f_7_9 rfl rfl ?_
  refine rz_iconst (v := 0) d_Processor_reset_4 (by decide) ?_
  refine rz_callSv (t := [.int 0, .ref 38]) d_Processor_reset_5 rfl w_7_13 rfl rfl w (fun Sq1 q1 => ?_)
  refine rz_pure (pc' := 9) d_Processor_reset_8 rfl ?_
  refine rz_iconst (v := 0) d_Processor_reset_9 (by decide) ?_
  refine rz_callVv (t := [.int 0]) d_Processor_reset_10 w_7_19 rfl rfl rfl q1 (fun Sq2 q2 => ?_)
  refine rz_pure (pc' := 14) d_Processor_reset_13 rfl ?_
  refine rz_iconst (v := 0) d_Processor_reset_14 (by decide) ?_
  refine rz_puti d_Processor_reset_15 f_7_23 rfl rfl rfl ?_
  refine rz_pure (pc' := 19) d_Processor_reset_18 rfl ?_
  refine rz_iconst (v := 0) d_Processor_reset_19 (by decide) ?_
  refine rz_puti d_Processor_reset_20 f_7_27 rfl rfl rfl ?_
  exact rz_vretv d_Processor_reset_23 rfl q2
