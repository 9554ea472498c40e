/-! what each block of the code asks (printed by wpgen.py) -/
theorem d_M_validates_0 : decode (rm_code mM_validates) 0 = .ok (.aload_n 0, 1) := by decide +kernel
theorem d_M_validates_1 : decode (rm_code mM_validates) 1 = .ok (.invokevirtual 180, 3) := by decide +kernel
theorem d_M_validates_4 : decode (rm_code mM_validates) 4 = .ok (.istore_n 1, 1) := by decide +kernel
theorem d_M_validates_5 : decode (rm_code mM_validates) 5 = .ok (.iload_n 1, 1) := by decide +kernel
theorem d_M_validates_6 : decode (rm_code mM_validates) 6 = .ok (.ifCond .eq (5), 3) := by decide +kernel
theorem d_M_validates_9 : decode (rm_code mM_validates) 9 = .ok (.iload_n 1, 1) := by decide +kernel
theorem d_M_validates_10 : decode (rm_code mM_validates) 10 = .ok (.ireturn, 1) := by decide +kernel
theorem d_M_validates_11 : decode (rm_code mM_validates) 11 = .ok (.aload_n 0, 1) := by decide +kernel
theorem d_M_validates_12 : decode (rm_code mM_validates) 12 = .ok (.invokevirtual 584, 3) := by decide +kernel
theorem d_M_validates_15 : decode (rm_code mM_validates) 15 = .ok (.aload_n 0, 1) := by decide +kernel
theorem d_M_validates_16 : decode (rm_code mM_validates) 16 = .ok (.bipush (7), 2) := by decide +kernel
theorem d_M_validates_18 : decode (rm_code mM_validates) 18 = .ok (.iconst 0, 1) := by decide +kernel
theorem d_M_validates_19 : decode (rm_code mM_validates) 19 = .ok (.invokevirtual 174, 3) := by decide +kernel
theorem d_M_validates_22 : decode (rm_code mM_validates) 22 = .ok (.bipush (7), 2) := by decide +kernel
theorem d_M_validates_24 : decode (rm_code mM_validates) 24 = .ok (.istore_n 2, 1) := by decide +kernel
theorem d_M_validates_25 : decode (rm_code mM_validates) 25 = .ok (.iconst 1, 1) := by decide +kernel
theorem d_M_validates_26 : decode (rm_code mM_validates) 26 = .ok (.istore_n 3, 1) := by decide +kernel
theorem d_M_validates_27 : decode (rm_code mM_validates) 27 = .ok (.iconst 0, 1) := by decide +kernel
theorem d_M_validates_28 : decode (rm_code mM_validates) 28 = .ok (.istore 4, 2) := by decide +kernel
theorem d_M_validates_30 : decode (rm_code mM_validates) 30 = .ok (.iconst 1, 1) := by decide +kernel
theorem d_M_validates_31 : decode (rm_code mM_validates) 31 = .ok (.istore 5, 2) := by decide +kernel
theorem d_M_validates_33 : decode (rm_code mM_validates) 33 = .ok (.iload 5, 2) := by decide +kernel
theorem d_M_validates_35 : decode (rm_code mM_validates) 35 = .ok (.ifCond .eq (99), 3) := by decide +kernel
theorem d_M_validates_38 : decode (rm_code mM_validates) 38 = .ok (.iload_n 2, 1) := by decide +kernel
theorem d_M_validates_39 : decode (rm_code mM_validates) 39 = .ok (.iload_n 3, 1) := by decide +kernel
theorem d_M_validates_40 : decode (rm_code mM_validates) 40 = .ok (.invokestatic 161, 3) := by decide +kernel
theorem d_M_validates_43 : decode (rm_code mM_validates) 43 = .ok (.ifCond .ne (12), 3) := by decide +kernel
theorem d_M_validates_46 : decode (rm_code mM_validates) 46 = .ok (.aload_n 0, 1) := by decide +kernel
theorem d_M_validates_47 : decode (rm_code mM_validates) 47 = .ok (.bipush (71), 2) := by decide +kernel
theorem d_M_validates_49 : decode (rm_code mM_validates) 49 = .ok (.iload_n 2, 1) := by decide +kernel
theorem d_M_validates_50 : decode (rm_code mM_validates) 50 = .ok (.iload_n 3, 1) := by decide +kernel
theorem d_M_validates_51 : decode (rm_code mM_validates) 51 = .ok (.invokevirtual 113, 3) := by decide +kernel
theorem d_M_validates_54 : decode (rm_code mM_validates) 54 = .ok (.ireturn, 1) := by decide +kernel
theorem d_M_validates_55 : decode (rm_code mM_validates) 55 = .ok (.aload_n 0, 1) := by decide +kernel
theorem d_M_validates_56 : decode (rm_code mM_validates) 56 = .ok (.iload_n 2, 1) := by decide +kernel
theorem d_M_validates_57 : decode (rm_code mM_validates) 57 = .ok (.iload_n 3, 1) := by decide +kernel
theorem d_M_validates_58 : decode (rm_code mM_validates) 58 = .ok (.invokevirtual 165, 3) := by decide +kernel
theorem d_M_validates_61 : decode (rm_code mM_validates) 61 = .ok (.ifCond .eq (9), 3) := by decide +kernel
theorem d_M_validates_64 : decode (rm_code mM_validates) 64 = .ok (.aload_n 0, 1) := by decide +kernel
theorem d_M_validates_65 : decode (rm_code mM_validates) 65 = .ok (.iload_n 2, 1) := by decide +kernel
theorem d_M_validates_66 : decode (rm_code mM_validates) 66 = .ok (.iload_n 3, 1) := by decide +kernel
theorem d_M_validates_67 : decode (rm_code mM_validates) 67 = .ok (.invokevirtual 174, 3) := by decide +kernel
theorem d_M_validates_70 : decode (rm_code mM_validates) 70 = .ok (.aload_n 0, 1) := by decide +kernel
theorem d_M_validates_71 : decode (rm_code mM_validates) 71 = .ok (.iload_n 2, 1) := by decide +kernel
theorem d_M_validates_72 : decode (rm_code mM_validates) 72 = .ok (.iload_n 3, 1) := by decide +kernel
theorem d_M_validates_73 : decode (rm_code mM_validates) 73 = .ok (.aload_n 0, 1) := by decide +kernel
theorem d_M_validates_74 : decode (rm_code mM_validates) 74 = .ok (.getfield 195, 3) := by decide +kernel
theorem d_M_validates_77 : decode (rm_code mM_validates) 77 = .ok (.iconst 0, 1) := by decide +kernel
theorem d_M_validates_78 : decode (rm_code mM_validates) 78 = .ok (.invokevirtual 148, 3) := by decide +kernel
theorem d_M_validates_81 : decode (rm_code mM_validates) 81 = .ok (.istore_n 1, 1) := by decide +kernel
theorem d_M_validates_82 : decode (rm_code mM_validates) 82 = .ok (.iload_n 1, 1) := by decide +kernel
theorem d_M_validates_83 : decode (rm_code mM_validates) 83 = .ok (.ifCond .eq (5), 3) := by decide +kernel
theorem d_M_validates_86 : decode (rm_code mM_validates) 86 = .ok (.iload_n 1, 1) := by decide +kernel
theorem d_M_validates_87 : decode (rm_code mM_validates) 87 = .ok (.ireturn, 1) := by decide +kernel
theorem d_M_validates_88 : decode (rm_code mM_validates) 88 = .ok (.iload 4, 2) := by decide +kernel
theorem d_M_validates_90 : decode (rm_code mM_validates) 90 = .ok (.iconst 1, 1) := by decide +kernel
theorem d_M_validates_91 : decode (rm_code mM_validates) 91 = .ok (.iadd, 1) := by decide +kernel
theorem d_M_validates_92 : decode (rm_code mM_validates) 92 = .ok (.istore 4, 2) := by decide +kernel
theorem d_M_validates_94 : decode (rm_code mM_validates) 94 = .ok (.aload_n 0, 1) := by decide +kernel
theorem d_M_validates_95 : decode (rm_code mM_validates) 95 = .ok (.getfield 195, 3) := by decide +kernel
theorem d_M_validates_98 : decode (rm_code mM_validates) 98 = .ok (.iconst 0, 1) := by decide +kernel
theorem d_M_validates_99 : decode (rm_code mM_validates) 99 = .ok (.iaload, 1) := by decide +kernel
theorem d_M_validates_100 : decode (rm_code mM_validates) 100 = .ok (.ifCond .eq (14), 3) := by decide +kernel
theorem d_M_validates_103 : decode (rm_code mM_validates) 103 = .ok (.iload 4, 2) := by decide +kernel
theorem d_M_validates_105 : decode (rm_code mM_validates) 105 = .ok (.bipush (6), 2) := by decide +kernel
theorem d_M_validates_107 : decode (rm_code mM_validates) 107 = .ok (.if_icmp .ge (7), 3) := by decide +kernel
theorem d_M_validates_110 : decode (rm_code mM_validates) 110 = .ok (.iconst 1, 1) := by decide +kernel
theorem d_M_validates_111 : decode (rm_code mM_validates) 111 = .ok (.goto (4), 3) := by decide +kernel
theorem d_M_validates_114 : decode (rm_code mM_validates) 114 = .ok (.iconst 0, 1) := by decide +kernel
theorem d_M_validates_115 : decode (rm_code mM_validates) 115 = .ok (.istore 5, 2) := by decide +kernel
theorem d_M_validates_117 : decode (rm_code mM_validates) 117 = .ok (.aload_n 0, 1) := by decide +kernel
theorem d_M_validates_118 : decode (rm_code mM_validates) 118 = .ok (.getfield 195, 3) := by decide +kernel
theorem d_M_validates_121 : decode (rm_code mM_validates) 121 = .ok (.iconst 0, 1) := by decide +kernel
theorem d_M_validates_122 : decode (rm_code mM_validates) 122 = .ok (.iaload, 1) := by decide +kernel
theorem d_M_validates_123 : decode (rm_code mM_validates) 123 = .ok (.istore_n 2, 1) := by decide +kernel
theorem d_M_validates_124 : decode (rm_code mM_validates) 124 = .ok (.aload_n 0, 1) := by decide +kernel
theorem d_M_validates_125 : decode (rm_code mM_validates) 125 = .ok (.getfield 195, 3) := by decide +kernel
theorem d_M_validates_128 : decode (rm_code mM_validates) 128 = .ok (.iconst 1, 1) := by decide +kernel
theorem d_M_validates_129 : decode (rm_code mM_validates) 129 = .ok (.iaload, 1) := by decide +kernel
theorem d_M_validates_130 : decode (rm_code mM_validates) 130 = .ok (.istore_n 3, 1) := by decide +kernel
theorem d_M_validates_131 : decode (rm_code mM_validates) 131 = .ok (.goto (-98), 3) := by decide +kernel
theorem d_M_validates_134 : decode (rm_code mM_validates) 134 = .ok (.aload_n 0, 1) := by decide +kernel
theorem d_M_validates_135 : decode (rm_code mM_validates) 135 = .ok (.invokevirtual 590, 3) := by decide +kernel
theorem d_M_validates_138 : decode (rm_code mM_validates) 138 = .ok (.istore_n 1, 1) := by decide +kernel
theorem d_M_validates_139 : decode (rm_code mM_validates) 139 = .ok (.iload_n 1, 1) := by decide +kernel
theorem d_M_validates_140 : decode (rm_code mM_validates) 140 = .ok (.ifCond .eq (7), 3) := by decide +kernel
theorem d_M_validates_143 : decode (rm_code mM_validates) 143 = .ok (.iload_n 1, 1) := by decide +kernel
theorem d_M_validates_144 : decode (rm_code mM_validates) 144 = .ok (.goto (7), 3) := by decide +kernel
theorem d_M_validates_147 : decode (rm_code mM_validates) 147 = .ok (.aload_n 0, 1) := by decide +kernel
theorem d_M_validates_148 : decode (rm_code mM_validates) 148 = .ok (.invokevirtual 189, 3) := by decide +kernel
theorem d_M_validates_151 : decode (rm_code mM_validates) 151 = .ok (.ireturn, 1) := by decide +kernel
theorem p_M_validates_0 {S : rz_S} {K : Int32 → rz_S → Prop} (w : rz_ev mM_loads [.ref 116] S (rz_i (fun xq1 Sq1 => ((xq1 = 0 → rz_ev mM_freesAll [.ref 116] Sq1 (rz_v (fun Sq3 => rz_ev mM_takes [.ref 116, .int 7, .int 0] Sq3 (rz_v (fun Sq4 => rz mM_validates 33 [(0, .ref 116), (2, .int 7), (3, .int 1), (4, .int 0), (5, .int 1)] [] Sq4 (rz_i K)))))) ∧ (¬ xq1 = 0 → K xq1 Sq1))))) : rz mM_validates 0 [(0, .ref 116)] [] S (rz_i K) := by
  refine rz_pure (pc' := 1) d_M_validates_0 rfl ?_
  refine rz_callVi (t := []) d_M_validates_1 w_12_180 rfl rfl rfl w (fun xq1 Sq1 q1 => ?_)
  refine rz_pure (pc' := 5) (l' := [(1, .int xq1), (0, .ref 116)]) d_M_validates_4 rfl ?_
  refine rz_pure (pc' := 6) d_M_validates_5 rfl ?_
  refine rz_ifeq (tgt := 11) d_M_validates_6 rfl (fun b2 => ?_) (fun b2 => ?_)
  · skip
    refine rz_pure (pc' := 12) d_M_validates_11 rfl ?_
    refine rz_callVv (t := []) d_M_validates_12 w_12_584 rfl rfl rfl (q1.1 b2) (fun Sq3 q3 => ?_)
    refine rz_pure (pc' := 16) d_M_validates_15 rfl ?_
    refine rz_bipush (v := 7) d_M_validates_16 (by decide) ?_
    refine rz_iconst (v := 0) d_M_validates_18 (by decide) ?_
    refine rz_callVv (t := [.int 0, .int 7]) d_M_validates_19 w_12_174 rfl rfl rfl q3 (fun Sq4 q4 => ?_)
    refine rz_bipush (v := 7) d_M_validates_22 (by decide) ?_
    refine rz_pure (pc' := 25) (l' := [(2, .int 7), (1, .int xq1), (0, .ref 116)]) d_M_validates_24 rfl ?_
    refine rz_iconst (v := 1) d_M_validates_25 (by decide) ?_
    refine rz_pure (pc' := 27) (l' := [(3, .int 1), (2, .int 7), (1, .int xq1), (0, .ref 116)]) d_M_validates_26 rfl ?_
    refine rz_iconst (v := 0) d_M_validates_27 (by decide) ?_
    refine rz_pure (pc' := 30) (l' := [(4, .int 0), (3, .int 1), (2, .int 7), (1, .int xq1), (0, .ref 116)]) d_M_validates_28 rfl ?_
    refine rz_iconst (v := 1) d_M_validates_30 (by decide) ?_
    refine rz_pure (pc' := 33) (l' := [(5, .int 1), (4, .int 0), (3, .int 1), (2, .int 7), (1, .int xq1), (0, .ref 116)]) d_M_validates_31 rfl ?_
    exact rz_pick (ks := [0, 2, 3, 4, 5]) (l := [(0, .ref 116), (2, .int 7), (3, .int 1), (4, .int 0), (5, .int 1)]) rfl rfl (by decide) rfl q4
  · skip
    refine rz_pure (pc' := 10) d_M_validates_9 rfl ?_
    exact rz_ireti d_M_validates_10 rfl rfl (q1.2 b2)
theorem p_M_validates_33 {S : rz_S} {K : Int32 → rz_S → Prop} {a2 : Int32} {a3 : Int32} {a4 : Int32} {a5 : Int32} (w : ((a5 = 0 → rz_ev mM_entries [.ref 116] S (rz_i (fun xq2 Sq2 => ((xq2 = 0 → rz_ev mM_stores [.ref 116] Sq2 (rz_i (fun xq4 Sq4 => K xq4 Sq4))) ∧ (¬ xq2 = 0 → K xq2 Sq2))))) ∧ (¬ a5 = 0 → rz_ev mM_isLegal [.int a2, .int a3] S (rz_i (fun xq5 Sq5 => ((xq5 = 0 → rz_ev mM_fault [.ref 116, .int 71, .int a2, .int a3] Sq5 (rz_i (fun xq10 Sq10 => K xq10 Sq10))) ∧ (¬ xq5 = 0 → rz_ev mM_isFree [.ref 116, .int a2, .int a3] Sq5 (rz_i (fun xq7 Sq7 => ((xq7 = 0 → rz mM_validates 70 [(0, .ref 116), (2, .int a2), (3, .int a3), (4, .int a4)] [] Sq7 (rz_i K)) ∧ (¬ xq7 = 0 → rz_ev mM_takes [.ref 116, .int a2, .int a3] Sq7 (rz_v (fun Sq9 => rz mM_validates 70 [(0, .ref 116), (2, .int a2), (3, .int a3), (4, .int a4)] [] Sq9 (rz_i K)))))))))))))) : rz mM_validates 33 [(0, .ref 116), (2, .int a2), (3, .int a3), (4, .int a4), (5, .int a5)] [] S (rz_i K) := by
  refine rz_pure (pc' := 35) d_M_validates_33 rfl ?_
  refine rz_ifeq (tgt := 134) d_M_validates_35 rfl (fun b1 => ?_) (fun b1 => ?_)
  · skip
    refine rz_pure (pc' := 135) d_M_validates_134 rfl ?_
    refine rz_callVi (t := []) d_M_validates_135 w_12_590 rfl rfl rfl (w.1 b1) (fun xq2 Sq2 q2 => ?_)
    refine rz_pure (pc' := 139) (l' := [(1, .int xq2), (0, .ref 116), (2, .int a2), (3, .int a3), (4, .int a4), (5, .int a5)]) d_M_validates_138 rfl ?_
    refine rz_pure (pc' := 140) d_M_validates_139 rfl ?_
    refine rz_ifeq (tgt := 147) d_M_validates_140 rfl (fun b3 => ?_) (fun b3 => ?_)
    · skip
      refine rz_pure (pc' := 148) d_M_validates_147 rfl ?_
      refine rz_callVi (t := []) d_M_validates_148 w_12_189 rfl rfl rfl (q2.1 b3) (fun xq4 Sq4 q4 => ?_)
      exact rz_ireti d_M_validates_151 rfl rfl q4
    · skip
      refine rz_pure (pc' := 144) d_M_validates_143 rfl ?_
      refine rz_pure (pc' := 151) d_M_validates_144 rfl ?_
      exact rz_ireti d_M_validates_151 rfl rfl (q2.2 b3)
  · skip
    refine rz_pure (pc' := 39) d_M_validates_38 rfl ?_
    refine rz_pure (pc' := 40) d_M_validates_39 rfl ?_
    refine rz_callSi (t := [.int a3, .int a2]) d_M_validates_40 rfl w_12_161 rfl rfl (w.2 b1) (fun xq5 Sq5 q5 => ?_)
    refine rz_ifne (tgt := 55) d_M_validates_43 rfl (fun b6 => ?_) (fun b6 => ?_)
    · skip
      refine rz_pure (pc' := 56) d_M_validates_55 rfl ?_
      refine rz_pure (pc' := 57) d_M_validates_56 rfl ?_
      refine rz_pure (pc' := 58) d_M_validates_57 rfl ?_
      refine rz_callVi (t := [.int a3, .int a2]) d_M_validates_58 w_12_165 rfl rfl rfl (q5.2 b6) (fun xq7 Sq7 q7 => ?_)
      refine rz_ifeq (tgt := 70) d_M_validates_61 rfl (fun b8 => ?_) (fun b8 => ?_)
      · skip
        exact rz_pick (ks := [0, 2, 3, 4]) (l := [(0, .ref 116), (2, .int a2), (3, .int a3), (4, .int a4)]) rfl rfl (by decide) rfl (q7.1 b8)
      · skip
        refine rz_pure (pc' := 65) d_M_validates_64 rfl ?_
        refine rz_pure (pc' := 66) d_M_validates_65 rfl ?_
        refine rz_pure (pc' := 67) d_M_validates_66 rfl ?_
        refine rz_callVv (t := [.int a3, .int a2]) d_M_validates_67 w_12_174 rfl rfl rfl (q7.2 b8) (fun Sq9 q9 => ?_)
        exact rz_pick (ks := [0, 2, 3, 4]) (l := [(0, .ref 116), (2, .int a2), (3, .int a3), (4, .int a4)]) rfl rfl (by decide) rfl q9
    · skip
      refine rz_pure (pc' := 47) d_M_validates_46 rfl ?_
      refine rz_bipush (v := 71) d_M_validates_47 (by decide) ?_
      refine rz_pure (pc' := 50) d_M_validates_49 rfl ?_
      refine rz_pure (pc' := 51) d_M_validates_50 rfl ?_
      refine rz_callVi (t := [.int a3, .int a2, .int 71]) d_M_validates_51 w_12_113 rfl rfl rfl (q5.1 b6) (fun xq10 Sq10 q10 => ?_)
      exact rz_ireti d_M_validates_54 rfl rfl q10
theorem p_M_validates_70 {S : rz_S} {K : Int32 → rz_S → Prop} {a2 : Int32} {a3 : Int32} {a4 : Int32} (w : rz_ev mM_readBlock [.ref 116, .int a2, .int a3, .ref 124, .int 0] S (rz_i (fun xq1 Sq1 => ((xq1 = 0 → ((Sq1.1 124 0 = 0 → rz mM_validates 114 [(0, .ref 116), (4, .int (a4 + 1))] [] Sq1 (rz_i K)) ∧ (¬ Sq1.1 124 0 = 0 → ((6 ≤ a4 + 1 → rz mM_validates 114 [(0, .ref 116), (4, .int (a4 + 1))] [] Sq1 (rz_i K)) ∧ (¬ 6 ≤ a4 + 1 → rz mM_validates 115 [(0, .ref 116), (4, .int (a4 + 1))] [.int 1] Sq1 (rz_i K)))))) ∧ (¬ xq1 = 0 → K xq1 Sq1))))) : rz mM_validates 70 [(0, .ref 116), (2, .int a2), (3, .int a3), (4, .int a4)] [] S (rz_i K) := by
  refine rz_pure (pc' := 71) d_M_validates_70 rfl ?_
  refine rz_pure (pc' := 72) d_M_validates_71 rfl ?_
  refine rz_pure (pc' := 73) d_M_validates_72 rfl ?_
  refine rz_pure (pc' := 74) d_M_validates_73 rfl ?_
  refine rz_getr d_M_validates_74 f_12_195 rfl rfl ?_
  refine rz_iconst (v := 0) d_M_validates_77 (by decide) ?_
  refine rz_callVi (t := [.int 0, .ref 124, .int a3, .int a2]) d_M_validates_78 w_12_148 rfl rfl rfl w (fun xq1 Sq1 q1 => ?_)
  refine rz_pure (pc' := 82) (l' := [(1, .int xq1), (0, .ref 116), (2, .int a2), (3, .int a3), (4, .int a4)]) d_M_validates_81 rfl ?_
  refine rz_pure (pc' := 83) d_M_validates_82 rfl ?_
  refine rz_ifeq (tgt := 88) d_M_validates_83 rfl (fun b2 => ?_) (fun b2 => ?_)
  · skip
    refine rz_pure (pc' := 90) d_M_validates_88 rfl ?_
    refine rz_iconst (v := 1) d_M_validates_90 (by decide) ?_
    refine rz_iadd d_M_validates_91 ?_
    refine rz_pure (pc' := 94) (l' := [(4, .int (a4 + 1)), (1, .int xq1), (0, .ref 116), (2, .int a2), (3, .int a3)]) d_M_validates_92 rfl ?_
    refine rz_pure (pc' := 95) d_M_validates_94 rfl ?_
    refine rz_getr d_M_validates_95 f_12_195 rfl rfl ?_
    refine rz_iconst (v := 0) d_M_validates_98 (by decide) ?_
    refine rz_ialdv (F := Sq1.1 124) (i := 0) d_M_validates_99 rfl (by decide) rfl (by decide) ?_
    refine rz_ifeq (tgt := 114) d_M_validates_100 rfl (fun b3 => ?_) (fun b3 => ?_)
    · skip
      exact rz_pick (ks := [0, 4]) (l := [(0, .ref 116), (4, .int (a4 + 1))]) rfl rfl (by decide) rfl ((q1.1 b2).1 b3)
    · skip
      refine rz_pure (pc' := 105) d_M_validates_103 rfl ?_
      refine rz_bipush (v := 6) d_M_validates_105 (by decide) ?_
      refine rz_icmpge (tgt := 114) d_M_validates_107 rfl (fun b4 => ?_) (fun b4 => ?_)
      · skip
        exact rz_pick (ks := [0, 4]) (l := [(0, .ref 116), (4, .int (a4 + 1))]) rfl rfl (by decide) rfl (((q1.1 b2).2 b3).1 b4)
      · skip
        refine rz_iconst (v := 1) d_M_validates_110 (by decide) ?_
        refine rz_pure (pc' := 115) d_M_validates_111 rfl ?_
        exact rz_pick (ks := [0, 4]) (l := [(0, .ref 116), (4, .int (a4 + 1))]) rfl rfl (by decide) rfl (((q1.1 b2).2 b3).2 b4)
  · skip
    refine rz_pure (pc' := 87) d_M_validates_86 rfl ?_
    exact rz_ireti d_M_validates_87 rfl rfl (q1.2 b2)
theorem p_M_validates_114 {S : rz_S} {K : Int32 → rz_S → Prop} {a4 : Int32} (w : rz mM_validates 115 [(0, .ref 116), (4, .int a4)] [.int 0] S (rz_i K)) : rz mM_validates 114 [(0, .ref 116), (4, .int a4)] [] S (rz_i K) := by
  refine rz_iconst (v := 0) d_M_validates_114 (by decide) ?_
  exact rz_pick (ks := [0, 4]) (l := [(0, .ref 116), (4, .int a4)]) rfl rfl (by decide) rfl w
theorem p_M_validates_115 {S : rz_S} {K : Int32 → rz_S → Prop} {a4 : Int32} {s0 : Int32} (w : rz mM_validates 33 [(0, .ref 116), (2, .int (S.1 124 0)), (3, .int (S.1 124 1)), (4, .int a4), (5, .int s0)] [] S (rz_i K)) : rz mM_validates 115 [(0, .ref 116), (4, .int a4)] [.int s0] S (rz_i K) := by
  refine rz_pure (pc' := 117) (l' := [(5, .int s0), (0, .ref 116), (4, .int a4)]) d_M_validates_115 rfl ?_
  refine rz_pure (pc' := 118) d_M_validates_117 rfl ?_
  refine rz_getr d_M_validates_118 f_12_195 rfl rfl ?_
  refine rz_iconst (v := 0) d_M_validates_121 (by decide) ?_
  refine rz_ialdv (F := S.1 124) (i := 0) d_M_validates_122 rfl (by decide) rfl (by decide) ?_
  refine rz_pure (pc' := 124) (l' := [(2, .int (S.1 124 0)), (5, .int s0), (0, .ref 116), (4, .int a4)]) d_M_validates_123 rfl ?_
  refine rz_pure (pc' := 125) d_M_validates_124 rfl ?_
  refine rz_getr d_M_validates_125 f_12_195 rfl rfl ?_
  refine rz_iconst (v := 1) d_M_validates_128 (by decide) ?_
  refine rz_ialdv (F := S.1 124) (i := 1) d_M_validates_129 rfl (by decide) rfl (by decide) ?_
  refine rz_pure (pc' := 131) (l' := [(3, .int (S.1 124 1)), (2, .int (S.1 124 0)), (5, .int s0), (0, .ref 116), (4, .int a4)]) d_M_validates_130 rfl ?_
  refine rz_pure (pc' := 33) d_M_validates_131 rfl ?_
  exact rz_pick (ks := [0, 2, 3, 4, 5]) (l := [(0, .ref 116), (2, .int (S.1 124 0)), (3, .int (S.1 124 1)), (4, .int a4), (5, .int s0)]) rfl rfl (by decide) rfl w
theorem d_M_entries_0 : decode (rm_code mM_entries) 0 = .ok (.bipush (7), 2) := by decide +kernel
theorem d_M_entries_2 : decode (rm_code mM_entries) 2 = .ok (.istore_n 1, 1) := by decide +kernel
theorem d_M_entries_3 : decode (rm_code mM_entries) 3 = .ok (.iconst 1, 1) := by decide +kernel
theorem d_M_entries_4 : decode (rm_code mM_entries) 4 = .ok (.istore_n 2, 1) := by decide +kernel
theorem d_M_entries_5 : decode (rm_code mM_entries) 5 = .ok (.iconst 1, 1) := by decide +kernel
theorem d_M_entries_6 : decode (rm_code mM_entries) 6 = .ok (.istore_n 3, 1) := by decide +kernel
theorem d_M_entries_7 : decode (rm_code mM_entries) 7 = .ok (.iload_n 3, 1) := by decide +kernel
theorem d_M_entries_8 : decode (rm_code mM_entries) 8 = .ok (.bipush (6), 2) := by decide +kernel
theorem d_M_entries_10 : decode (rm_code mM_entries) 10 = .ok (.if_icmp .gt (102), 3) := by decide +kernel
theorem d_M_entries_13 : decode (rm_code mM_entries) 13 = .ok (.iload_n 1, 1) := by decide +kernel
theorem d_M_entries_14 : decode (rm_code mM_entries) 14 = .ok (.iload_n 2, 1) := by decide +kernel
theorem d_M_entries_15 : decode (rm_code mM_entries) 15 = .ok (.invokestatic 161, 3) := by decide +kernel
theorem d_M_entries_18 : decode (rm_code mM_entries) 18 = .ok (.ifCond .ne (12), 3) := by decide +kernel
theorem d_M_entries_21 : decode (rm_code mM_entries) 21 = .ok (.aload_n 0, 1) := by decide +kernel
theorem d_M_entries_22 : decode (rm_code mM_entries) 22 = .ok (.bipush (71), 2) := by decide +kernel
theorem d_M_entries_24 : decode (rm_code mM_entries) 24 = .ok (.iload_n 1, 1) := by decide +kernel
theorem d_M_entries_25 : decode (rm_code mM_entries) 25 = .ok (.iload_n 2, 1) := by decide +kernel
theorem d_M_entries_26 : decode (rm_code mM_entries) 26 = .ok (.invokevirtual 113, 3) := by decide +kernel
theorem d_M_entries_29 : decode (rm_code mM_entries) 29 = .ok (.ireturn, 1) := by decide +kernel
theorem d_M_entries_30 : decode (rm_code mM_entries) 30 = .ok (.iconst 0, 1) := by decide +kernel
theorem d_M_entries_31 : decode (rm_code mM_entries) 31 = .ok (.istore 4, 2) := by decide +kernel
theorem d_M_entries_33 : decode (rm_code mM_entries) 33 = .ok (.iload 4, 2) := by decide +kernel
theorem d_M_entries_35 : decode (rm_code mM_entries) 35 = .ok (.iconst 4, 1) := by decide +kernel
theorem d_M_entries_36 : decode (rm_code mM_entries) 36 = .ok (.if_icmp .ge (45), 3) := by decide +kernel
theorem d_M_entries_39 : decode (rm_code mM_entries) 39 = .ok (.aload_n 0, 1) := by decide +kernel
theorem d_M_entries_40 : decode (rm_code mM_entries) 40 = .ok (.iload_n 1, 1) := by decide +kernel
theorem d_M_entries_41 : decode (rm_code mM_entries) 41 = .ok (.iload_n 2, 1) := by decide +kernel
theorem d_M_entries_42 : decode (rm_code mM_entries) 42 = .ok (.aload_n 0, 1) := by decide +kernel
theorem d_M_entries_43 : decode (rm_code mM_entries) 43 = .ok (.getfield 195, 3) := by decide +kernel
theorem d_M_entries_46 : decode (rm_code mM_entries) 46 = .ok (.iconst 0, 1) := by decide +kernel
theorem d_M_entries_47 : decode (rm_code mM_entries) 47 = .ok (.invokevirtual 148, 3) := by decide +kernel
theorem d_M_entries_50 : decode (rm_code mM_entries) 50 = .ok (.istore 5, 2) := by decide +kernel
theorem d_M_entries_52 : decode (rm_code mM_entries) 52 = .ok (.iload 5, 2) := by decide +kernel
theorem d_M_entries_54 : decode (rm_code mM_entries) 54 = .ok (.ifCond .ne (13), 3) := by decide +kernel
theorem d_M_entries_57 : decode (rm_code mM_entries) 57 = .ok (.aload_n 0, 1) := by decide +kernel
theorem d_M_entries_58 : decode (rm_code mM_entries) 58 = .ok (.iload_n 1, 1) := by decide +kernel
theorem d_M_entries_59 : decode (rm_code mM_entries) 59 = .ok (.iload_n 2, 1) := by decide +kernel
theorem d_M_entries_60 : decode (rm_code mM_entries) 60 = .ok (.iload 4, 2) := by decide +kernel
theorem d_M_entries_62 : decode (rm_code mM_entries) 62 = .ok (.invokevirtual 593, 3) := by decide +kernel
theorem d_M_entries_65 : decode (rm_code mM_entries) 65 = .ok (.istore 5, 2) := by decide +kernel
theorem d_M_entries_67 : decode (rm_code mM_entries) 67 = .ok (.iload 5, 2) := by decide +kernel
theorem d_M_entries_69 : decode (rm_code mM_entries) 69 = .ok (.ifCond .eq (6), 3) := by decide +kernel
theorem d_M_entries_72 : decode (rm_code mM_entries) 72 = .ok (.iload 5, 2) := by decide +kernel
theorem d_M_entries_74 : decode (rm_code mM_entries) 74 = .ok (.ireturn, 1) := by decide +kernel
theorem d_M_entries_75 : decode (rm_code mM_entries) 75 = .ok (.iinc 4 (1), 3) := by decide +kernel
theorem d_M_entries_78 : decode (rm_code mM_entries) 78 = .ok (.goto (-45), 3) := by decide +kernel
theorem d_M_entries_81 : decode (rm_code mM_entries) 81 = .ok (.aload_n 0, 1) := by decide +kernel
theorem d_M_entries_82 : decode (rm_code mM_entries) 82 = .ok (.getfield 195, 3) := by decide +kernel
theorem d_M_entries_85 : decode (rm_code mM_entries) 85 = .ok (.iconst 0, 1) := by decide +kernel
theorem d_M_entries_86 : decode (rm_code mM_entries) 86 = .ok (.iaload, 1) := by decide +kernel
theorem d_M_entries_87 : decode (rm_code mM_entries) 87 = .ok (.ifCond .ne (5), 3) := by decide +kernel
theorem d_M_entries_90 : decode (rm_code mM_entries) 90 = .ok (.iconst 0, 1) := by decide +kernel
theorem d_M_entries_91 : decode (rm_code mM_entries) 91 = .ok (.ireturn, 1) := by decide +kernel
theorem d_M_entries_92 : decode (rm_code mM_entries) 92 = .ok (.aload_n 0, 1) := by decide +kernel
theorem d_M_entries_93 : decode (rm_code mM_entries) 93 = .ok (.getfield 195, 3) := by decide +kernel
theorem d_M_entries_96 : decode (rm_code mM_entries) 96 = .ok (.iconst 0, 1) := by decide +kernel
theorem d_M_entries_97 : decode (rm_code mM_entries) 97 = .ok (.iaload, 1) := by decide +kernel
theorem d_M_entries_98 : decode (rm_code mM_entries) 98 = .ok (.istore_n 1, 1) := by decide +kernel
theorem d_M_entries_99 : decode (rm_code mM_entries) 99 = .ok (.aload_n 0, 1) := by decide +kernel
theorem d_M_entries_100 : decode (rm_code mM_entries) 100 = .ok (.getfield 195, 3) := by decide +kernel
theorem d_M_entries_103 : decode (rm_code mM_entries) 103 = .ok (.iconst 1, 1) := by decide +kernel
theorem d_M_entries_104 : decode (rm_code mM_entries) 104 = .ok (.iaload, 1) := by decide +kernel
theorem d_M_entries_105 : decode (rm_code mM_entries) 105 = .ok (.istore_n 2, 1) := by decide +kernel
theorem d_M_entries_106 : decode (rm_code mM_entries) 106 = .ok (.iinc 3 (1), 3) := by decide +kernel
theorem d_M_entries_109 : decode (rm_code mM_entries) 109 = .ok (.goto (-102), 3) := by decide +kernel
theorem d_M_entries_112 : decode (rm_code mM_entries) 112 = .ok (.iconst 0, 1) := by decide +kernel
theorem d_M_entries_113 : decode (rm_code mM_entries) 113 = .ok (.ireturn, 1) := by decide +kernel
theorem p_M_entries_0 {S : rz_S} {K : Int32 → rz_S → Prop} (w : rz mM_entries 7 [(0, .ref 116), (1, .int 7), (2, .int 1), (3, .int 1)] [] S (rz_i K)) : rz mM_entries 0 [(0, .ref 116)] [] S (rz_i K) := by
  refine rz_bipush (v := 7) d_M_entries_0 (by decide) ?_
  refine rz_pure (pc' := 3) (l' := [(1, .int 7), (0, .ref 116)]) d_M_entries_2 rfl ?_
  refine rz_iconst (v := 1) d_M_entries_3 (by decide) ?_
  refine rz_pure (pc' := 5) (l' := [(2, .int 1), (1, .int 7), (0, .ref 116)]) d_M_entries_4 rfl ?_
  refine rz_iconst (v := 1) d_M_entries_5 (by decide) ?_
  refine rz_pure (pc' := 7) (l' := [(3, .int 1), (2, .int 1), (1, .int 7), (0, .ref 116)]) d_M_entries_6 rfl ?_
  exact rz_pick (ks := [0, 1, 2, 3]) (l := [(0, .ref 116), (1, .int 7), (2, .int 1), (3, .int 1)]) rfl rfl (by decide) rfl w
theorem p_M_entries_7 {S : rz_S} {K : Int32 → rz_S → Prop} {a1 : Int32} {a2 : Int32} {a3 : Int32} (w : ((6 < a3 → K 0 S) ∧ (¬ 6 < a3 → rz_ev mM_isLegal [.int a1, .int a2] S (rz_i (fun xq2 Sq2 => ((xq2 = 0 → rz_ev mM_fault [.ref 116, .int 71, .int a1, .int a2] Sq2 (rz_i (fun xq4 Sq4 => K xq4 Sq4))) ∧ (¬ xq2 = 0 → rz mM_entries 33 [(0, .ref 116), (1, .int a1), (2, .int a2), (3, .int a3), (4, .int 0)] [] Sq2 (rz_i K)))))))) : rz mM_entries 7 [(0, .ref 116), (1, .int a1), (2, .int a2), (3, .int a3)] [] S (rz_i K) := by
  refine rz_pure (pc' := 8) d_M_entries_7 rfl ?_
  refine rz_bipush (v := 6) d_M_entries_8 (by decide) ?_
  refine rz_icmpgt (tgt := 112) d_M_entries_10 rfl (fun b1 => ?_) (fun b1 => ?_)
  · skip
    refine rz_iconst (v := 0) d_M_entries_112 (by decide) ?_
    exact rz_ireti d_M_entries_113 rfl rfl (w.1 b1)
  · skip
    refine rz_pure (pc' := 14) d_M_entries_13 rfl ?_
    refine rz_pure (pc' := 15) d_M_entries_14 rfl ?_
    refine rz_callSi (t := [.int a2, .int a1]) d_M_entries_15 rfl w_12_161 rfl rfl (w.2 b1) (fun xq2 Sq2 q2 => ?_)
    refine rz_ifne (tgt := 30) d_M_entries_18 rfl (fun b3 => ?_) (fun b3 => ?_)
    · skip
      refine rz_iconst (v := 0) d_M_entries_30 (by decide) ?_
      refine rz_pure (pc' := 33) (l' := [(4, .int 0), (0, .ref 116), (1, .int a1), (2, .int a2), (3, .int a3)]) d_M_entries_31 rfl ?_
      exact rz_pick (ks := [0, 1, 2, 3, 4]) (l := [(0, .ref 116), (1, .int a1), (2, .int a2), (3, .int a3), (4, .int 0)]) rfl rfl (by decide) rfl (q2.2 b3)
    · skip
      refine rz_pure (pc' := 22) d_M_entries_21 rfl ?_
      refine rz_bipush (v := 71) d_M_entries_22 (by decide) ?_
      refine rz_pure (pc' := 25) d_M_entries_24 rfl ?_
      refine rz_pure (pc' := 26) d_M_entries_25 rfl ?_
      refine rz_callVi (t := [.int a2, .int a1, .int 71]) d_M_entries_26 w_12_113 rfl rfl rfl (q2.1 b3) (fun xq4 Sq4 q4 => ?_)
      exact rz_ireti d_M_entries_29 rfl rfl q4
theorem p_M_entries_33 {S : rz_S} {K : Int32 → rz_S → Prop} {a1 : Int32} {a2 : Int32} {a3 : Int32} {a4 : Int32} (w : ((4 ≤ a4 → ((S.1 124 0 = 0 → K 0 S) ∧ (¬ S.1 124 0 = 0 → rz mM_entries 7 [(0, .ref 116), (1, .int (S.1 124 0)), (2, .int (S.1 124 1)), (3, .int (a3 + 1))] [] S (rz_i K)))) ∧ (¬ 4 ≤ a4 → rz_ev mM_readBlock [.ref 116, .int a1, .int a2, .ref 124, .int 0] S (rz_i (fun xq3 Sq3 => ((xq3 = 0 → rz_ev mM_used [.ref 116, .int a1, .int a2, .int a4] Sq3 (rz_i (fun xq5 Sq5 => rz mM_entries 67 [(0, .ref 116), (1, .int a1), (2, .int a2), (3, .int a3), (4, .int a4), (5, .int xq5)] [] Sq5 (rz_i K)))) ∧ (¬ xq3 = 0 → rz mM_entries 67 [(0, .ref 116), (1, .int a1), (2, .int a2), (3, .int a3), (4, .int a4), (5, .int xq3)] [] Sq3 (rz_i K)))))))) : rz mM_entries 33 [(0, .ref 116), (1, .int a1), (2, .int a2), (3, .int a3), (4, .int a4)] [] S (rz_i K) := by
  refine rz_pure (pc' := 35) d_M_entries_33 rfl ?_
  refine rz_iconst (v := 4) d_M_entries_35 (by decide) ?_
  refine rz_icmpge (tgt := 81) d_M_entries_36 rfl (fun b1 => ?_) (fun b1 => ?_)
  · skip
    refine rz_pure (pc' := 82) d_M_entries_81 rfl ?_
    refine rz_getr d_M_entries_82 f_12_195 rfl rfl ?_
    refine rz_iconst (v := 0) d_M_entries_85 (by decide) ?_
    refine rz_ialdv (F := S.1 124) (i := 0) d_M_entries_86 rfl (by decide) rfl (by decide) ?_
    refine rz_ifne (tgt := 92) d_M_entries_87 rfl (fun b2 => ?_) (fun b2 => ?_)
    · skip
      refine rz_pure (pc' := 93) d_M_entries_92 rfl ?_
      refine rz_getr d_M_entries_93 f_12_195 rfl rfl ?_
      refine rz_iconst (v := 0) d_M_entries_96 (by decide) ?_
      refine rz_ialdv (F := S.1 124) (i := 0) d_M_entries_97 rfl (by decide) rfl (by decide) ?_
      refine rz_pure (pc' := 99) (l' := [(1, .int (S.1 124 0)), (0, .ref 116), (2, .int a2), (3, .int a3), (4, .int a4)]) d_M_entries_98 rfl ?_
      refine rz_pure (pc' := 100) d_M_entries_99 rfl ?_
      refine rz_getr d_M_entries_100 f_12_195 rfl rfl ?_
      refine rz_iconst (v := 1) d_M_entries_103 (by decide) ?_
      refine rz_ialdv (F := S.1 124) (i := 1) d_M_entries_104 rfl (by decide) rfl (by decide) ?_
      refine rz_pure (pc' := 106) (l' := [(2, .int (S.1 124 1)), (1, .int (S.1 124 0)), (0, .ref 116), (3, .int a3), (4, .int a4)]) d_M_entries_105 rfl ?_
      refine rz_pure (pc' := 109) (l' := [(3, .int (a3 + 1)), (2, .int (S.1 124 1)), (1, .int (S.1 124 0)), (0, .ref 116), (4, .int a4)]) d_M_entries_106 rfl ?_
      refine rz_pure (pc' := 7) d_M_entries_109 rfl ?_
      exact rz_pick (ks := [0, 1, 2, 3]) (l := [(0, .ref 116), (1, .int (S.1 124 0)), (2, .int (S.1 124 1)), (3, .int (a3 + 1))]) rfl rfl (by decide) rfl ((w.1 b1).2 b2)
    · skip
      refine rz_iconst (v := 0) d_M_entries_90 (by decide) ?_
      exact rz_ireti d_M_entries_91 rfl rfl ((w.1 b1).1 b2)
  · skip
    refine rz_pure (pc' := 40) d_M_entries_39 rfl ?_
    refine rz_pure (pc' := 41) d_M_entries_40 rfl ?_
    refine rz_pure (pc' := 42) d_M_entries_41 rfl ?_
    refine rz_pure (pc' := 43) d_M_entries_42 rfl ?_
    refine rz_getr d_M_entries_43 f_12_195 rfl rfl ?_
    refine rz_iconst (v := 0) d_M_entries_46 (by decide) ?_
    refine rz_callVi (t := [.int 0, .ref 124, .int a2, .int a1]) d_M_entries_47 w_12_148 rfl rfl rfl (w.2 b1) (fun xq3 Sq3 q3 => ?_)
    refine rz_pure (pc' := 52) (l' := [(5, .int xq3), (0, .ref 116), (1, .int a1), (2, .int a2), (3, .int a3), (4, .int a4)]) d_M_entries_50 rfl ?_
    refine rz_pure (pc' := 54) d_M_entries_52 rfl ?_
    refine rz_ifne (tgt := 67) d_M_entries_54 rfl (fun b4 => ?_) (fun b4 => ?_)
    · skip
      exact rz_pick (ks := [0, 1, 2, 3, 4, 5]) (l := [(0, .ref 116), (1, .int a1), (2, .int a2), (3, .int a3), (4, .int a4), (5, .int xq3)]) rfl rfl (by decide) rfl (q3.2 b4)
    · skip
      refine rz_pure (pc' := 58) d_M_entries_57 rfl ?_
      refine rz_pure (pc' := 59) d_M_entries_58 rfl ?_
      refine rz_pure (pc' := 60) d_M_entries_59 rfl ?_
      refine rz_pure (pc' := 62) d_M_entries_60 rfl ?_
      refine rz_callVi (t := [.int a4, .int a2, .int a1]) d_M_entries_62 w_12_593 rfl rfl rfl (q3.1 b4) (fun xq5 Sq5 q5 => ?_)
      refine rz_pure (pc' := 67) (l' := [(5, .int xq5), (0, .ref 116), (1, .int a1), (2, .int a2), (3, .int a3), (4, .int a4)]) d_M_entries_65 rfl ?_
      exact rz_pick (ks := [0, 1, 2, 3, 4, 5]) (l := [(0, .ref 116), (1, .int a1), (2, .int a2), (3, .int a3), (4, .int a4), (5, .int xq5)]) rfl rfl (by decide) rfl q5
theorem p_M_entries_67 {S : rz_S} {K : Int32 → rz_S → Prop} {a1 : Int32} {a2 : Int32} {a3 : Int32} {a4 : Int32} {a5 : Int32} (w : ((a5 = 0 → rz mM_entries 33 [(0, .ref 116), (1, .int a1), (2, .int a2), (3, .int a3), (4, .int (a4 + 1))] [] S (rz_i K)) ∧ (¬ a5 = 0 → K a5 S))) : rz mM_entries 67 [(0, .ref 116), (1, .int a1), (2, .int a2), (3, .int a3), (4, .int a4), (5, .int a5)] [] S (rz_i K) := by
  refine rz_pure (pc' := 69) d_M_entries_67 rfl ?_
  refine rz_ifeq (tgt := 75) d_M_entries_69 rfl (fun b1 => ?_) (fun b1 => ?_)
  · skip
    refine rz_pure (pc' := 78) (l' := [(4, .int (a4 + 1)), (0, .ref 116), (1, .int a1), (2, .int a2), (3, .int a3), (5, .int a5)]) d_M_entries_75 rfl ?_
    refine rz_pure (pc' := 33) d_M_entries_78 rfl ?_
    exact rz_pick (ks := [0, 1, 2, 3, 4]) (l := [(0, .ref 116), (1, .int a1), (2, .int a2), (3, .int a3), (4, .int (a4 + 1))]) rfl rfl (by decide) rfl (w.1 b1)
  · skip
    refine rz_pure (pc' := 74) d_M_entries_72 rfl ?_
    exact rz_ireti d_M_entries_74 rfl rfl (w.2 b1)
theorem d_M_used_0 : decode (rm_code mM_used) 0 = .ok (.aload_n 0, 1) := by decide +kernel
theorem d_M_used_1 : decode (rm_code mM_used) 1 = .ok (.getfield 195, 3) := by decide +kernel
theorem d_M_used_4 : decode (rm_code mM_used) 4 = .ok (.bipush (16), 2) := by decide +kernel
theorem d_M_used_6 : decode (rm_code mM_used) 6 = .ok (.iload_n 3, 1) := by decide +kernel
theorem d_M_used_7 : decode (rm_code mM_used) 7 = .ok (.imul, 1) := by decide +kernel
theorem d_M_used_8 : decode (rm_code mM_used) 8 = .ok (.iconst 2, 1) := by decide +kernel
theorem d_M_used_9 : decode (rm_code mM_used) 9 = .ok (.iadd, 1) := by decide +kernel
theorem d_M_used_10 : decode (rm_code mM_used) 10 = .ok (.iaload, 1) := by decide +kernel
theorem d_M_used_11 : decode (rm_code mM_used) 11 = .ok (.istore 4, 2) := by decide +kernel
theorem d_M_used_13 : decode (rm_code mM_used) 13 = .ok (.iload 4, 2) := by decide +kernel
theorem d_M_used_15 : decode (rm_code mM_used) 15 = .ok (.ifCond .ne (5), 3) := by decide +kernel
theorem d_M_used_18 : decode (rm_code mM_used) 18 = .ok (.iconst 0, 1) := by decide +kernel
theorem d_M_used_19 : decode (rm_code mM_used) 19 = .ok (.ireturn, 1) := by decide +kernel
theorem d_M_used_20 : decode (rm_code mM_used) 20 = .ok (.iload 4, 2) := by decide +kernel
theorem d_M_used_22 : decode (rm_code mM_used) 22 = .ok (.sipush (128), 3) := by decide +kernel
theorem d_M_used_25 : decode (rm_code mM_used) 25 = .ok (.if_icmp .ge (12), 3) := by decide +kernel
theorem d_M_used_28 : decode (rm_code mM_used) 28 = .ok (.aload_n 0, 1) := by decide +kernel
theorem d_M_used_29 : decode (rm_code mM_used) 29 = .ok (.iload_n 1, 1) := by decide +kernel
theorem d_M_used_30 : decode (rm_code mM_used) 30 = .ok (.iload_n 2, 1) := by decide +kernel
theorem d_M_used_31 : decode (rm_code mM_used) 31 = .ok (.iload_n 3, 1) := by decide +kernel
theorem d_M_used_32 : decode (rm_code mM_used) 32 = .ok (.iconst 0, 1) := by decide +kernel
theorem d_M_used_33 : decode (rm_code mM_used) 33 = .ok (.invokevirtual 223, 3) := by decide +kernel
theorem d_M_used_36 : decode (rm_code mM_used) 36 = .ok (.ireturn, 1) := by decide +kernel
theorem d_M_used_37 : decode (rm_code mM_used) 37 = .ok (.aload_n 0, 1) := by decide +kernel
theorem d_M_used_38 : decode (rm_code mM_used) 38 = .ok (.getfield 195, 3) := by decide +kernel
theorem d_M_used_41 : decode (rm_code mM_used) 41 = .ok (.bipush (16), 2) := by decide +kernel
theorem d_M_used_43 : decode (rm_code mM_used) 43 = .ok (.iload_n 3, 1) := by decide +kernel
theorem d_M_used_44 : decode (rm_code mM_used) 44 = .ok (.imul, 1) := by decide +kernel
theorem d_M_used_45 : decode (rm_code mM_used) 45 = .ok (.iconst 3, 1) := by decide +kernel
theorem d_M_used_46 : decode (rm_code mM_used) 46 = .ok (.iadd, 1) := by decide +kernel
theorem d_M_used_47 : decode (rm_code mM_used) 47 = .ok (.iaload, 1) := by decide +kernel
theorem d_M_used_48 : decode (rm_code mM_used) 48 = .ok (.istore 5, 2) := by decide +kernel
theorem d_M_used_50 : decode (rm_code mM_used) 50 = .ok (.aload_n 0, 1) := by decide +kernel
theorem d_M_used_51 : decode (rm_code mM_used) 51 = .ok (.getfield 195, 3) := by decide +kernel
theorem d_M_used_54 : decode (rm_code mM_used) 54 = .ok (.bipush (16), 2) := by decide +kernel
theorem d_M_used_56 : decode (rm_code mM_used) 56 = .ok (.iload_n 3, 1) := by decide +kernel
theorem d_M_used_57 : decode (rm_code mM_used) 57 = .ok (.imul, 1) := by decide +kernel
theorem d_M_used_58 : decode (rm_code mM_used) 58 = .ok (.iconst 4, 1) := by decide +kernel
theorem d_M_used_59 : decode (rm_code mM_used) 59 = .ok (.iadd, 1) := by decide +kernel
theorem d_M_used_60 : decode (rm_code mM_used) 60 = .ok (.iaload, 1) := by decide +kernel
theorem d_M_used_61 : decode (rm_code mM_used) 61 = .ok (.istore 6, 2) := by decide +kernel
theorem d_M_used_63 : decode (rm_code mM_used) 63 = .ok (.aload_n 0, 1) := by decide +kernel
theorem d_M_used_64 : decode (rm_code mM_used) 64 = .ok (.iload 5, 2) := by decide +kernel
theorem d_M_used_66 : decode (rm_code mM_used) 66 = .ok (.iload 6, 2) := by decide +kernel
theorem d_M_used_68 : decode (rm_code mM_used) 68 = .ok (.invokevirtual 596, 3) := by decide +kernel
theorem d_M_used_71 : decode (rm_code mM_used) 71 = .ok (.istore 7, 2) := by decide +kernel
theorem d_M_used_73 : decode (rm_code mM_used) 73 = .ok (.iload 7, 2) := by decide +kernel
theorem d_M_used_75 : decode (rm_code mM_used) 75 = .ok (.ifCond .ne (18), 3) := by decide +kernel
theorem d_M_used_78 : decode (rm_code mM_used) 78 = .ok (.aload_n 0, 1) := by decide +kernel
theorem d_M_used_79 : decode (rm_code mM_used) 79 = .ok (.iload 5, 2) := by decide +kernel
theorem d_M_used_81 : decode (rm_code mM_used) 81 = .ok (.iload 6, 2) := by decide +kernel
theorem d_M_used_83 : decode (rm_code mM_used) 83 = .ok (.aload_n 0, 1) := by decide +kernel
theorem d_M_used_84 : decode (rm_code mM_used) 84 = .ok (.getfield 186, 3) := by decide +kernel
theorem d_M_used_87 : decode (rm_code mM_used) 87 = .ok (.iconst 0, 1) := by decide +kernel
theorem d_M_used_88 : decode (rm_code mM_used) 88 = .ok (.invokevirtual 148, 3) := by decide +kernel
theorem d_M_used_91 : decode (rm_code mM_used) 91 = .ok (.istore 7, 2) := by decide +kernel
theorem d_M_used_93 : decode (rm_code mM_used) 93 = .ok (.iload 7, 2) := by decide +kernel
theorem d_M_used_95 : decode (rm_code mM_used) 95 = .ok (.ifCond .eq (6), 3) := by decide +kernel
theorem d_M_used_98 : decode (rm_code mM_used) 98 = .ok (.iload 7, 2) := by decide +kernel
theorem d_M_used_100 : decode (rm_code mM_used) 100 = .ok (.ireturn, 1) := by decide +kernel
theorem d_M_used_101 : decode (rm_code mM_used) 101 = .ok (.aload_n 0, 1) := by decide +kernel
theorem d_M_used_102 : decode (rm_code mM_used) 102 = .ok (.getfield 186, 3) := by decide +kernel
theorem d_M_used_105 : decode (rm_code mM_used) 105 = .ok (.iconst 0, 1) := by decide +kernel
theorem d_M_used_106 : decode (rm_code mM_used) 106 = .ok (.iaload, 1) := by decide +kernel
theorem d_M_used_107 : decode (rm_code mM_used) 107 = .ok (.ifCond .ne (5), 3) := by decide +kernel
theorem d_M_used_110 : decode (rm_code mM_used) 110 = .ok (.iconst 0, 1) := by decide +kernel
theorem d_M_used_111 : decode (rm_code mM_used) 111 = .ok (.ireturn, 1) := by decide +kernel
theorem d_M_used_112 : decode (rm_code mM_used) 112 = .ok (.aload_n 0, 1) := by decide +kernel
theorem d_M_used_113 : decode (rm_code mM_used) 113 = .ok (.getfield 186, 3) := by decide +kernel
theorem d_M_used_116 : decode (rm_code mM_used) 116 = .ok (.iconst 0, 1) := by decide +kernel
theorem d_M_used_117 : decode (rm_code mM_used) 117 = .ok (.iaload, 1) := by decide +kernel
theorem d_M_used_118 : decode (rm_code mM_used) 118 = .ok (.istore 5, 2) := by decide +kernel
theorem d_M_used_120 : decode (rm_code mM_used) 120 = .ok (.aload_n 0, 1) := by decide +kernel
theorem d_M_used_121 : decode (rm_code mM_used) 121 = .ok (.getfield 186, 3) := by decide +kernel
theorem d_M_used_124 : decode (rm_code mM_used) 124 = .ok (.iconst 1, 1) := by decide +kernel
theorem d_M_used_125 : decode (rm_code mM_used) 125 = .ok (.iaload, 1) := by decide +kernel
theorem d_M_used_126 : decode (rm_code mM_used) 126 = .ok (.istore 6, 2) := by decide +kernel
theorem d_M_used_128 : decode (rm_code mM_used) 128 = .ok (.goto (-65), 3) := by decide +kernel
theorem p_M_used_0 {S : rz_S} {K : Int32 → rz_S → Prop} {a1 : Int32} {a2 : Int32} {a3 : Int32} (w : rx_in ((16 * a3) + 2) 64 = true ∧ ((S.1 124 (((16 * a3) + 2).toNatClampNeg) = 0 → K 0 S) ∧ (¬ S.1 124 (((16 * a3) + 2).toNatClampNeg) = 0 → ((128 ≤ S.1 124 (((16 * a3) + 2).toNatClampNeg) → rx_in ((16 * a3) + 3) 64 = true ∧ rx_in ((16 * a3) + 4) 64 = true ∧ rz mM_used 63 [(0, .ref 116), (5, .int (S.1 124 (((16 * a3) + 3).toNatClampNeg))), (6, .int (S.1 124 (((16 * a3) + 4).toNatClampNeg)))] [] S (rz_i K)) ∧ (¬ 128 ≤ S.1 124 (((16 * a3) + 2).toNatClampNeg) → rz_ev mM_changesType [.ref 116, .int a1, .int a2, .int a3, .int 0] S (rz_i (fun xq3 Sq3 => K xq3 Sq3))))))) : rz mM_used 0 [(0, .ref 116), (1, .int a1), (2, .int a2), (3, .int a3)] [] S (rz_i K) := by
  refine rz_pure (pc' := 1) d_M_used_0 rfl ?_
  refine rz_getr d_M_used_1 f_12_195 rfl rfl ?_
  refine rz_bipush (v := 16) d_M_used_4 (by decide) ?_
  refine rz_pure (pc' := 7) d_M_used_6 rfl ?_
  refine rz_imul d_M_used_7 ?_
  refine rz_iconst (v := 2) d_M_used_8 (by decide) ?_
  refine rz_iadd d_M_used_9 ?_
  refine rz_ialdv (F := S.1 124) (i := ((16 * a3) + 2).toNatClampNeg) d_M_used_10 rfl w.1 rfl rfl ?_
  refine rz_pure (pc' := 13) (l' := [(4, .int (S.1 124 (((16 * a3) + 2).toNatClampNeg))), (0, .ref 116), (1, .int a1), (2, .int a2), (3, .int a3)]) d_M_used_11 rfl ?_
  refine rz_pure (pc' := 15) d_M_used_13 rfl ?_
  refine rz_ifne (tgt := 20) d_M_used_15 rfl (fun b1 => ?_) (fun b1 => ?_)
  · skip
    refine rz_pure (pc' := 22) d_M_used_20 rfl ?_
    refine rz_sipush (v := 128) d_M_used_22 (by decide) ?_
    refine rz_icmpge (tgt := 37) d_M_used_25 rfl (fun b2 => ?_) (fun b2 => ?_)
    · skip
      refine rz_pure (pc' := 38) d_M_used_37 rfl ?_
      refine rz_getr d_M_used_38 f_12_195 rfl rfl ?_
      refine rz_bipush (v := 16) d_M_used_41 (by decide) ?_
      refine rz_pure (pc' := 44) d_M_used_43 rfl ?_
      refine rz_imul d_M_used_44 ?_
      refine rz_iconst (v := 3) d_M_used_45 (by decide) ?_
      refine rz_iadd d_M_used_46 ?_
      refine rz_ialdv (F := S.1 124) (i := ((16 * a3) + 3).toNatClampNeg) d_M_used_47 rfl ((w.2.2 b1).1 b2).1 rfl rfl ?_
      refine rz_pure (pc' := 50) (l' := [(5, .int (S.1 124 (((16 * a3) + 3).toNatClampNeg))), (4, .int (S.1 124 (((16 * a3) + 2).toNatClampNeg))), (0, .ref 116), (1, .int a1), (2, .int a2), (3, .int a3)]) d_M_used_48 rfl ?_
      refine rz_pure (pc' := 51) d_M_used_50 rfl ?_
      refine rz_getr d_M_used_51 f_12_195 rfl rfl ?_
      refine rz_bipush (v := 16) d_M_used_54 (by decide) ?_
      refine rz_pure (pc' := 57) d_M_used_56 rfl ?_
      refine rz_imul d_M_used_57 ?_
      refine rz_iconst (v := 4) d_M_used_58 (by decide) ?_
      refine rz_iadd d_M_used_59 ?_
      refine rz_ialdv (F := S.1 124) (i := ((16 * a3) + 4).toNatClampNeg) d_M_used_60 rfl ((w.2.2 b1).1 b2).2.1 rfl rfl ?_
      refine rz_pure (pc' := 63) (l' := [(6, .int (S.1 124 (((16 * a3) + 4).toNatClampNeg))), (5, .int (S.1 124 (((16 * a3) + 3).toNatClampNeg))), (4, .int (S.1 124 (((16 * a3) + 2).toNatClampNeg))), (0, .ref 116), (1, .int a1), (2, .int a2), (3, .int a3)]) d_M_used_61 rfl ?_
      exact rz_pick (ks := [0, 5, 6]) (l := [(0, .ref 116), (5, .int (S.1 124 (((16 * a3) + 3).toNatClampNeg))), (6, .int (S.1 124 (((16 * a3) + 4).toNatClampNeg)))]) rfl rfl (by decide) rfl ((w.2.2 b1).1 b2).2.2
    · skip
      refine rz_pure (pc' := 29) d_M_used_28 rfl ?_
      refine rz_pure (pc' := 30) d_M_used_29 rfl ?_
      refine rz_pure (pc' := 31) d_M_used_30 rfl ?_
      refine rz_pure (pc' := 32) d_M_used_31 rfl ?_
      refine rz_iconst (v := 0) d_M_used_32 (by decide) ?_
      refine rz_callVi (t := [.int 0, .int a3, .int a2, .int a1]) d_M_used_33 w_12_223 rfl rfl rfl ((w.2.2 b1).2 b2) (fun xq3 Sq3 q3 => ?_)
      exact rz_ireti d_M_used_36 rfl rfl q3
  · skip
    refine rz_iconst (v := 0) d_M_used_18 (by decide) ?_
    exact rz_ireti d_M_used_19 rfl rfl (w.2.1 b1)
theorem p_M_used_63 {S : rz_S} {K : Int32 → rz_S → Prop} {a5 : Int32} {a6 : Int32} (w : rz_ev mM_uses [.ref 116, .int a5, .int a6] S (rz_i (fun xq1 Sq1 => ((xq1 = 0 → rz_ev mM_readBlock [.ref 116, .int a5, .int a6, .ref 125, .int 0] Sq1 (rz_i (fun xq3 Sq3 => rz mM_used 93 [(0, .ref 116), (7, .int xq3)] [] Sq3 (rz_i K)))) ∧ (¬ xq1 = 0 → rz mM_used 93 [(0, .ref 116), (7, .int xq1)] [] Sq1 (rz_i K)))))) : rz mM_used 63 [(0, .ref 116), (5, .int a5), (6, .int a6)] [] S (rz_i K) := by
  refine rz_pure (pc' := 64) d_M_used_63 rfl ?_
  refine rz_pure (pc' := 66) d_M_used_64 rfl ?_
  refine rz_pure (pc' := 68) d_M_used_66 rfl ?_
  refine rz_callVi (t := [.int a6, .int a5]) d_M_used_68 w_12_596 rfl rfl rfl w (fun xq1 Sq1 q1 => ?_)
  refine rz_pure (pc' := 73) (l' := [(7, .int xq1), (0, .ref 116), (5, .int a5), (6, .int a6)]) d_M_used_71 rfl ?_
  refine rz_pure (pc' := 75) d_M_used_73 rfl ?_
  refine rz_ifne (tgt := 93) d_M_used_75 rfl (fun b2 => ?_) (fun b2 => ?_)
  · skip
    exact rz_pick (ks := [0, 7]) (l := [(0, .ref 116), (7, .int xq1)]) rfl rfl (by decide) rfl (q1.2 b2)
  · skip
    refine rz_pure (pc' := 79) d_M_used_78 rfl ?_
    refine rz_pure (pc' := 81) d_M_used_79 rfl ?_
    refine rz_pure (pc' := 83) d_M_used_81 rfl ?_
    refine rz_pure (pc' := 84) d_M_used_83 rfl ?_
    refine rz_getr d_M_used_84 f_12_186 rfl rfl ?_
    refine rz_iconst (v := 0) d_M_used_87 (by decide) ?_
    refine rz_callVi (t := [.int 0, .ref 125, .int a6, .int a5]) d_M_used_88 w_12_148 rfl rfl rfl (q1.1 b2) (fun xq3 Sq3 q3 => ?_)
    refine rz_pure (pc' := 93) (l' := [(7, .int xq3), (0, .ref 116), (5, .int a5), (6, .int a6)]) d_M_used_91 rfl ?_
    exact rz_pick (ks := [0, 7]) (l := [(0, .ref 116), (7, .int xq3)]) rfl rfl (by decide) rfl q3
theorem p_M_used_93 {S : rz_S} {K : Int32 → rz_S → Prop} {a7 : Int32} (w : ((a7 = 0 → ((S.1 125 0 = 0 → K 0 S) ∧ (¬ S.1 125 0 = 0 → rz mM_used 63 [(0, .ref 116), (5, .int (S.1 125 0)), (6, .int (S.1 125 1))] [] S (rz_i K)))) ∧ (¬ a7 = 0 → K a7 S))) : rz mM_used 93 [(0, .ref 116), (7, .int a7)] [] S (rz_i K) := by
  refine rz_pure (pc' := 95) d_M_used_93 rfl ?_
  refine rz_ifeq (tgt := 101) d_M_used_95 rfl (fun b1 => ?_) (fun b1 => ?_)
  · skip
    refine rz_pure (pc' := 102) d_M_used_101 rfl ?_
    refine rz_getr d_M_used_102 f_12_186 rfl rfl ?_
    refine rz_iconst (v := 0) d_M_used_105 (by decide) ?_
    refine rz_ialdv (F := S.1 125) (i := 0) d_M_used_106 rfl (by decide) rfl (by decide) ?_
    refine rz_ifne (tgt := 112) d_M_used_107 rfl (fun b2 => ?_) (fun b2 => ?_)
    · skip
      refine rz_pure (pc' := 113) d_M_used_112 rfl ?_
      refine rz_getr d_M_used_113 f_12_186 rfl rfl ?_
      refine rz_iconst (v := 0) d_M_used_116 (by decide) ?_
      refine rz_ialdv (F := S.1 125) (i := 0) d_M_used_117 rfl (by decide) rfl (by decide) ?_
      refine rz_pure (pc' := 120) (l' := [(5, .int (S.1 125 0)), (0, .ref 116), (7, .int a7)]) d_M_used_118 rfl ?_
      refine rz_pure (pc' := 121) d_M_used_120 rfl ?_
      refine rz_getr d_M_used_121 f_12_186 rfl rfl ?_
      refine rz_iconst (v := 1) d_M_used_124 (by decide) ?_
      refine rz_ialdv (F := S.1 125) (i := 1) d_M_used_125 rfl (by decide) rfl (by decide) ?_
      refine rz_pure (pc' := 128) (l' := [(6, .int (S.1 125 1)), (5, .int (S.1 125 0)), (0, .ref 116), (7, .int a7)]) d_M_used_126 rfl ?_
      refine rz_pure (pc' := 63) d_M_used_128 rfl ?_
      exact rz_pick (ks := [0, 5, 6]) (l := [(0, .ref 116), (5, .int (S.1 125 0)), (6, .int (S.1 125 1))]) rfl rfl (by decide) rfl ((w.1 b1).2 b2)
    · skip
      refine rz_iconst (v := 0) d_M_used_110 (by decide) ?_
      exact rz_ireti d_M_used_111 rfl rfl ((w.1 b1).1 b2)
  · skip
    refine rz_pure (pc' := 100) d_M_used_98 rfl ?_
    exact rz_ireti d_M_used_100 rfl rfl (w.2 b1)
theorem d_M_numbers_0 : decode (rm_code mM_numbers) 0 = .ok (.aload_n 0, 1) := by decide +kernel
theorem d_M_numbers_1 : decode (rm_code mM_numbers) 1 = .ok (.iconst 0, 1) := by decide +kernel
theorem d_M_numbers_2 : decode (rm_code mM_numbers) 2 = .ok (.putfield 599, 3) := by decide +kernel
theorem d_M_numbers_5 : decode (rm_code mM_numbers) 5 = .ok (.aload_n 0, 1) := by decide +kernel
theorem d_M_numbers_6 : decode (rm_code mM_numbers) 6 = .ok (.iconst 0, 1) := by decide +kernel
theorem d_M_numbers_7 : decode (rm_code mM_numbers) 7 = .ok (.putfield 602, 3) := by decide +kernel
theorem d_M_numbers_10 : decode (rm_code mM_numbers) 10 = .ok (.aload_n 0, 1) := by decide +kernel
theorem d_M_numbers_11 : decode (rm_code mM_numbers) 11 = .ok (.getfield 599, 3) := by decide +kernel
theorem d_M_numbers_14 : decode (rm_code mM_numbers) 14 = .ok (.iload_n 1, 1) := by decide +kernel
theorem d_M_numbers_15 : decode (rm_code mM_numbers) 15 = .ok (.if_icmp .ge (30), 3) := by decide +kernel
theorem d_M_numbers_18 : decode (rm_code mM_numbers) 18 = .ok (.aload_n 0, 1) := by decide +kernel
theorem d_M_numbers_19 : decode (rm_code mM_numbers) 19 = .ok (.getfield 260, 3) := by decide +kernel
theorem d_M_numbers_22 : decode (rm_code mM_numbers) 22 = .ok (.aload_n 0, 1) := by decide +kernel
theorem d_M_numbers_23 : decode (rm_code mM_numbers) 23 = .ok (.getfield 599, 3) := by decide +kernel
theorem d_M_numbers_26 : decode (rm_code mM_numbers) 26 = .ok (.iaload, 1) := by decide +kernel
theorem d_M_numbers_27 : decode (rm_code mM_numbers) 27 = .ok (.bipush (58), 2) := by decide +kernel
theorem d_M_numbers_29 : decode (rm_code mM_numbers) 29 = .ok (.if_icmp .eq (16), 3) := by decide +kernel
theorem d_M_numbers_32 : decode (rm_code mM_numbers) 32 = .ok (.aload_n 0, 1) := by decide +kernel
theorem d_M_numbers_33 : decode (rm_code mM_numbers) 33 = .ok (.aload_n 0, 1) := by decide +kernel
theorem d_M_numbers_34 : decode (rm_code mM_numbers) 34 = .ok (.getfield 599, 3) := by decide +kernel
theorem d_M_numbers_37 : decode (rm_code mM_numbers) 37 = .ok (.iconst 1, 1) := by decide +kernel
theorem d_M_numbers_38 : decode (rm_code mM_numbers) 38 = .ok (.iadd, 1) := by decide +kernel
theorem d_M_numbers_39 : decode (rm_code mM_numbers) 39 = .ok (.putfield 599, 3) := by decide +kernel
theorem d_M_numbers_42 : decode (rm_code mM_numbers) 42 = .ok (.goto (-32), 3) := by decide +kernel
theorem d_M_numbers_45 : decode (rm_code mM_numbers) 45 = .ok (.aload_n 0, 1) := by decide +kernel
theorem d_M_numbers_46 : decode (rm_code mM_numbers) 46 = .ok (.aload_n 0, 1) := by decide +kernel
theorem d_M_numbers_47 : decode (rm_code mM_numbers) 47 = .ok (.getfield 599, 3) := by decide +kernel
theorem d_M_numbers_50 : decode (rm_code mM_numbers) 50 = .ok (.iconst 1, 1) := by decide +kernel
theorem d_M_numbers_51 : decode (rm_code mM_numbers) 51 = .ok (.iadd, 1) := by decide +kernel
theorem d_M_numbers_52 : decode (rm_code mM_numbers) 52 = .ok (.putfield 599, 3) := by decide +kernel
theorem d_M_numbers_55 : decode (rm_code mM_numbers) 55 = .ok (.aload_n 0, 1) := by decide +kernel
theorem d_M_numbers_56 : decode (rm_code mM_numbers) 56 = .ok (.getfield 599, 3) := by decide +kernel
theorem d_M_numbers_59 : decode (rm_code mM_numbers) 59 = .ok (.iload_n 1, 1) := by decide +kernel
theorem d_M_numbers_60 : decode (rm_code mM_numbers) 60 = .ok (.if_icmp .le (9), 3) := by decide +kernel
theorem d_M_numbers_63 : decode (rm_code mM_numbers) 63 = .ok (.aload_n 0, 1) := by decide +kernel
theorem d_M_numbers_64 : decode (rm_code mM_numbers) 64 = .ok (.bipush (30), 2) := by decide +kernel
theorem d_M_numbers_66 : decode (rm_code mM_numbers) 66 = .ok (.putfield 602, 3) := by decide +kernel
theorem d_M_numbers_69 : decode (rm_code mM_numbers) 69 = .ok (.aload_n 0, 1) := by decide +kernel
theorem d_M_numbers_70 : decode (rm_code mM_numbers) 70 = .ok (.getfield 602, 3) := by decide +kernel
theorem d_M_numbers_73 : decode (rm_code mM_numbers) 73 = .ok (.ifCond .ne (7), 3) := by decide +kernel
theorem d_M_numbers_76 : decode (rm_code mM_numbers) 76 = .ok (.iconst 1, 1) := by decide +kernel
theorem d_M_numbers_77 : decode (rm_code mM_numbers) 77 = .ok (.goto (4), 3) := by decide +kernel
theorem d_M_numbers_80 : decode (rm_code mM_numbers) 80 = .ok (.iconst 0, 1) := by decide +kernel
theorem d_M_numbers_81 : decode (rm_code mM_numbers) 81 = .ok (.ireturn, 1) := by decide +kernel
theorem p_M_numbers_0 {S : rz_S} {K : Int32 → rz_S → Prop} {a1 : Int32} (w : rz mM_numbers 10 [(0, .ref 116), (1, .int a1)] [] (rz_uI (rz_uI S 116 72 0) 116 73 0) (rz_i K)) : rz mM_numbers 0 [(0, .ref 116), (1, .int a1)] [] S (rz_i K) := by
  refine rz_pure (pc' := 1) d_M_numbers_0 rfl ?_
  refine rz_iconst (v := 0) d_M_numbers_1 (by decide) ?_
  refine rz_puti d_M_numbers_2 f_12_599 rfl rfl rfl ?_
  refine rz_pure (pc' := 6) d_M_numbers_5 rfl ?_
  refine rz_iconst (v := 0) d_M_numbers_6 (by decide) ?_
  refine rz_puti d_M_numbers_7 f_12_602 rfl rfl rfl ?_
  exact rz_pick (ks := [0, 1]) (l := [(0, .ref 116), (1, .int a1)]) rfl rfl (by decide) rfl w
theorem p_M_numbers_10 {S : rz_S} {K : Int32 → rz_S → Prop} {a1 : Int32} (w : ((a1 ≤ S.2 116 72 → rz mM_numbers 45 [(0, .ref 116), (1, .int a1)] [] S (rz_i K)) ∧ (¬ a1 ≤ S.2 116 72 → rx_in (S.2 116 72) 401 = true ∧ ((S.1 151 ((S.2 116 72).toNatClampNeg) = 58 → rz mM_numbers 45 [(0, .ref 116), (1, .int a1)] [] S (rz_i K)) ∧ (¬ S.1 151 ((S.2 116 72).toNatClampNeg) = 58 → rz mM_numbers 10 [(0, .ref 116), (1, .int a1)] [] (rz_uI S 116 72 ((S.2 116 72) + 1)) (rz_i K)))))) : rz mM_numbers 10 [(0, .ref 116), (1, .int a1)] [] S (rz_i K) := by
  refine rz_pure (pc' := 11) d_M_numbers_10 rfl ?_
  refine rz_getiv (v := S.2 116 72) d_M_numbers_11 f_12_599 rfl rfl rfl ?_
  refine rz_pure (pc' := 15) d_M_numbers_14 rfl ?_
  refine rz_icmpge (tgt := 45) d_M_numbers_15 rfl (fun b1 => ?_) (fun b1 => ?_)
  · skip
    exact rz_pick (ks := [0, 1]) (l := [(0, .ref 116), (1, .int a1)]) rfl rfl (by decide) rfl (w.1 b1)
  · skip
    refine rz_pure (pc' := 19) d_M_numbers_18 rfl ?_
    refine rz_getr d_M_numbers_19 f_12_260 rfl rfl ?_
    refine rz_pure (pc' := 23) d_M_numbers_22 rfl ?_
    refine rz_getiv (v := S.2 116 72) d_M_numbers_23 f_12_599 rfl rfl rfl ?_
    refine rz_ialdv (F := S.1 151) (i := (S.2 116 72).toNatClampNeg) d_M_numbers_26 rfl (w.2 b1).1 rfl rfl ?_
    refine rz_bipush (v := 58) d_M_numbers_27 (by decide) ?_
    refine rz_icmpeq (tgt := 45) d_M_numbers_29 rfl (fun b2 => ?_) (fun b2 => ?_)
    · skip
      exact rz_pick (ks := [0, 1]) (l := [(0, .ref 116), (1, .int a1)]) rfl rfl (by decide) rfl ((w.2 b1).2.1 b2)
    · skip
      refine rz_pure (pc' := 33) d_M_numbers_32 rfl ?_
      refine rz_pure (pc' := 34) d_M_numbers_33 rfl ?_
      refine rz_getiv (v := S.2 116 72) d_M_numbers_34 f_12_599 rfl rfl rfl ?_
      refine rz_iconst (v := 1) d_M_numbers_37 (by decide) ?_
      refine rz_iadd d_M_numbers_38 ?_
      refine rz_puti d_M_numbers_39 f_12_599 rfl rfl rfl ?_
      refine rz_pure (pc' := 10) d_M_numbers_42 rfl ?_
      exact rz_pick (ks := [0, 1]) (l := [(0, .ref 116), (1, .int a1)]) rfl rfl (by decide) rfl ((w.2 b1).2.2 b2)
theorem p_M_numbers_45 {S : rz_S} {K : Int32 → rz_S → Prop} {a1 : Int32} (w : (((S.2 116 72) + 1 ≤ a1 → rz mM_numbers 69 [(0, .ref 116)] [] (rz_uI S 116 72 ((S.2 116 72) + 1)) (rz_i K)) ∧ (¬ (S.2 116 72) + 1 ≤ a1 → rz mM_numbers 69 [(0, .ref 116)] [] (rz_uI (rz_uI S 116 72 ((S.2 116 72) + 1)) 116 73 30) (rz_i K)))) : rz mM_numbers 45 [(0, .ref 116), (1, .int a1)] [] S (rz_i K) := by
  refine rz_pure (pc' := 46) d_M_numbers_45 rfl ?_
  refine rz_pure (pc' := 47) d_M_numbers_46 rfl ?_
  refine rz_getiv (v := S.2 116 72) d_M_numbers_47 f_12_599 rfl rfl rfl ?_
  refine rz_iconst (v := 1) d_M_numbers_50 (by decide) ?_
  refine rz_iadd d_M_numbers_51 ?_
  refine rz_puti d_M_numbers_52 f_12_599 rfl rfl rfl ?_
  refine rz_pure (pc' := 56) d_M_numbers_55 rfl ?_
  refine rz_getiv (v := (S.2 116 72) + 1) d_M_numbers_56 f_12_599 rfl rfl rz_uI_s ?_
  refine rz_pure (pc' := 60) d_M_numbers_59 rfl ?_
  refine rz_icmple (tgt := 69) d_M_numbers_60 rfl (fun b1 => ?_) (fun b1 => ?_)
  · skip
    exact rz_pick (ks := [0]) (l := [(0, .ref 116)]) rfl rfl (by decide) rfl (w.1 b1)
  · skip
    refine rz_pure (pc' := 64) d_M_numbers_63 rfl ?_
    refine rz_bipush (v := 30) d_M_numbers_64 (by decide) ?_
    refine rz_puti d_M_numbers_66 f_12_602 rfl rfl rfl ?_
    exact rz_pick (ks := [0]) (l := [(0, .ref 116)]) rfl rfl (by decide) rfl (w.2 b1)
theorem p_M_numbers_69 {S : rz_S} {K : Int32 → rz_S → Prop} (w : ((S.2 116 73 = 0 → K 1 S) ∧ (¬ S.2 116 73 = 0 → K 0 S))) : rz mM_numbers 69 [(0, .ref 116)] [] S (rz_i K) := by
  refine rz_pure (pc' := 70) d_M_numbers_69 rfl ?_
  refine rz_getiv (v := S.2 116 73) d_M_numbers_70 f_12_602 rfl rfl rfl ?_
  refine rz_ifne (tgt := 80) d_M_numbers_73 rfl (fun b1 => ?_) (fun b1 => ?_)
  · skip
    refine rz_iconst (v := 0) d_M_numbers_80 (by decide) ?_
    exact rz_ireti d_M_numbers_81 rfl (by decide) (w.2 b1)
  · skip
    refine rz_iconst (v := 1) d_M_numbers_76 (by decide) ?_
    refine rz_pure (pc' := 81) d_M_numbers_77 rfl ?_
    exact rz_ireti d_M_numbers_81 rfl (by decide) (w.1 b1)
theorem d_M_isDigit_0 : decode (rm_code mM_isDigit) 0 = .ok (.iload_n 0, 1) := by decide +kernel
theorem d_M_isDigit_1 : decode (rm_code mM_isDigit) 1 = .ok (.bipush (48), 2) := by decide +kernel
theorem d_M_isDigit_3 : decode (rm_code mM_isDigit) 3 = .ok (.if_icmp .lt (13), 3) := by decide +kernel
theorem d_M_isDigit_6 : decode (rm_code mM_isDigit) 6 = .ok (.iload_n 0, 1) := by decide +kernel
theorem d_M_isDigit_7 : decode (rm_code mM_isDigit) 7 = .ok (.bipush (57), 2) := by decide +kernel
theorem d_M_isDigit_9 : decode (rm_code mM_isDigit) 9 = .ok (.if_icmp .gt (7), 3) := by decide +kernel
theorem d_M_isDigit_12 : decode (rm_code mM_isDigit) 12 = .ok (.iconst 1, 1) := by decide +kernel
theorem d_M_isDigit_13 : decode (rm_code mM_isDigit) 13 = .ok (.goto (4), 3) := by decide +kernel
theorem d_M_isDigit_16 : decode (rm_code mM_isDigit) 16 = .ok (.iconst 0, 1) := by decide +kernel
theorem d_M_isDigit_17 : decode (rm_code mM_isDigit) 17 = .ok (.ireturn, 1) := by decide +kernel
theorem p_M_isDigit_0 {S : rz_S} {K : Int32 → rz_S → Prop} {a0 : Int32} (w : ((a0 < 48 → K 0 S) ∧ (¬ a0 < 48 → ((57 < a0 → K 0 S) ∧ (¬ 57 < a0 → K 1 S))))) : rz mM_isDigit 0 [(0, .int a0)] [] S (rz_i K) := by
  refine rz_pure (pc' := 1) d_M_isDigit_0 rfl ?_
  refine rz_bipush (v := 48) d_M_isDigit_1 (by decide) ?_
  refine rz_icmplt (tgt := 16) d_M_isDigit_3 rfl (fun b1 => ?_) (fun b1 => ?_)
  · skip
    refine rz_iconst (v := 0) d_M_isDigit_16 (by decide) ?_
    exact rz_ireti d_M_isDigit_17 rfl (by decide) (w.1 b1)
  · skip
    refine rz_pure (pc' := 7) d_M_isDigit_6 rfl ?_
    refine rz_bipush (v := 57) d_M_isDigit_7 (by decide) ?_
    refine rz_icmpgt (tgt := 16) d_M_isDigit_9 rfl (fun b2 => ?_) (fun b2 => ?_)
    · skip
      refine rz_iconst (v := 0) d_M_isDigit_16 (by decide) ?_
      exact rz_ireti d_M_isDigit_17 rfl (by decide) ((w.2 b1).1 b2)
    · skip
      refine rz_iconst (v := 1) d_M_isDigit_12 (by decide) ?_
      refine rz_pure (pc' := 17) d_M_isDigit_13 rfl ?_
      exact rz_ireti d_M_isDigit_17 rfl (by decide) ((w.2 b1).2 b2)
theorem d_M_numberNext_0 : decode (rm_code mM_numberNext) 0 = .ok (.aload_n 0, 1) := by decide +kernel
theorem d_M_numberNext_1 : decode (rm_code mM_numberNext) 1 = .ok (.getfield 599, 3) := by decide +kernel
theorem d_M_numberNext_4 : decode (rm_code mM_numberNext) 4 = .ok (.iload_n 1, 1) := by decide +kernel
theorem d_M_numberNext_5 : decode (rm_code mM_numberNext) 5 = .ok (.if_icmp .ge (31), 3) := by decide +kernel
theorem d_M_numberNext_8 : decode (rm_code mM_numberNext) 8 = .ok (.aload_n 0, 1) := by decide +kernel
theorem d_M_numberNext_9 : decode (rm_code mM_numberNext) 9 = .ok (.getfield 260, 3) := by decide +kernel
theorem d_M_numberNext_12 : decode (rm_code mM_numberNext) 12 = .ok (.aload_n 0, 1) := by decide +kernel
theorem d_M_numberNext_13 : decode (rm_code mM_numberNext) 13 = .ok (.getfield 599, 3) := by decide +kernel
theorem d_M_numberNext_16 : decode (rm_code mM_numberNext) 16 = .ok (.iaload, 1) := by decide +kernel
theorem d_M_numberNext_17 : decode (rm_code mM_numberNext) 17 = .ok (.invokestatic 605, 3) := by decide +kernel
theorem d_M_numberNext_20 : decode (rm_code mM_numberNext) 20 = .ok (.ifCond .ne (16), 3) := by decide +kernel
theorem d_M_numberNext_23 : decode (rm_code mM_numberNext) 23 = .ok (.aload_n 0, 1) := by decide +kernel
theorem d_M_numberNext_24 : decode (rm_code mM_numberNext) 24 = .ok (.aload_n 0, 1) := by decide +kernel
theorem d_M_numberNext_25 : decode (rm_code mM_numberNext) 25 = .ok (.getfield 599, 3) := by decide +kernel
theorem d_M_numberNext_28 : decode (rm_code mM_numberNext) 28 = .ok (.iconst 1, 1) := by decide +kernel
theorem d_M_numberNext_29 : decode (rm_code mM_numberNext) 29 = .ok (.iadd, 1) := by decide +kernel
theorem d_M_numberNext_30 : decode (rm_code mM_numberNext) 30 = .ok (.putfield 599, 3) := by decide +kernel
theorem d_M_numberNext_33 : decode (rm_code mM_numberNext) 33 = .ok (.goto (-33), 3) := by decide +kernel
theorem d_M_numberNext_36 : decode (rm_code mM_numberNext) 36 = .ok (.iconst 0, 1) := by decide +kernel
theorem d_M_numberNext_37 : decode (rm_code mM_numberNext) 37 = .ok (.istore_n 2, 1) := by decide +kernel
theorem d_M_numberNext_38 : decode (rm_code mM_numberNext) 38 = .ok (.iconst 0, 1) := by decide +kernel
theorem d_M_numberNext_39 : decode (rm_code mM_numberNext) 39 = .ok (.istore_n 3, 1) := by decide +kernel
theorem d_M_numberNext_40 : decode (rm_code mM_numberNext) 40 = .ok (.aload_n 0, 1) := by decide +kernel
theorem d_M_numberNext_41 : decode (rm_code mM_numberNext) 41 = .ok (.getfield 599, 3) := by decide +kernel
theorem d_M_numberNext_44 : decode (rm_code mM_numberNext) 44 = .ok (.iload_n 1, 1) := by decide +kernel
theorem d_M_numberNext_45 : decode (rm_code mM_numberNext) 45 = .ok (.if_icmp .ge (62), 3) := by decide +kernel
theorem d_M_numberNext_48 : decode (rm_code mM_numberNext) 48 = .ok (.aload_n 0, 1) := by decide +kernel
theorem d_M_numberNext_49 : decode (rm_code mM_numberNext) 49 = .ok (.getfield 260, 3) := by decide +kernel
theorem d_M_numberNext_52 : decode (rm_code mM_numberNext) 52 = .ok (.aload_n 0, 1) := by decide +kernel
theorem d_M_numberNext_53 : decode (rm_code mM_numberNext) 53 = .ok (.getfield 599, 3) := by decide +kernel
theorem d_M_numberNext_56 : decode (rm_code mM_numberNext) 56 = .ok (.iaload, 1) := by decide +kernel
theorem d_M_numberNext_57 : decode (rm_code mM_numberNext) 57 = .ok (.invokestatic 605, 3) := by decide +kernel
theorem d_M_numberNext_60 : decode (rm_code mM_numberNext) 60 = .ok (.ifCond .eq (47), 3) := by decide +kernel
theorem d_M_numberNext_63 : decode (rm_code mM_numberNext) 63 = .ok (.iload_n 3, 1) := by decide +kernel
theorem d_M_numberNext_64 : decode (rm_code mM_numberNext) 64 = .ok (.iconst 3, 1) := by decide +kernel
theorem d_M_numberNext_65 : decode (rm_code mM_numberNext) 65 = .ok (.if_icmp .ge (23), 3) := by decide +kernel
theorem d_M_numberNext_68 : decode (rm_code mM_numberNext) 68 = .ok (.bipush (10), 2) := by decide +kernel
theorem d_M_numberNext_70 : decode (rm_code mM_numberNext) 70 = .ok (.iload_n 2, 1) := by decide +kernel
theorem d_M_numberNext_71 : decode (rm_code mM_numberNext) 71 = .ok (.imul, 1) := by decide +kernel
theorem d_M_numberNext_72 : decode (rm_code mM_numberNext) 72 = .ok (.aload_n 0, 1) := by decide +kernel
theorem d_M_numberNext_73 : decode (rm_code mM_numberNext) 73 = .ok (.getfield 260, 3) := by decide +kernel
theorem d_M_numberNext_76 : decode (rm_code mM_numberNext) 76 = .ok (.aload_n 0, 1) := by decide +kernel
theorem d_M_numberNext_77 : decode (rm_code mM_numberNext) 77 = .ok (.getfield 599, 3) := by decide +kernel
theorem d_M_numberNext_80 : decode (rm_code mM_numberNext) 80 = .ok (.iaload, 1) := by decide +kernel
theorem d_M_numberNext_81 : decode (rm_code mM_numberNext) 81 = .ok (.iadd, 1) := by decide +kernel
theorem d_M_numberNext_82 : decode (rm_code mM_numberNext) 82 = .ok (.bipush (48), 2) := by decide +kernel
theorem d_M_numberNext_84 : decode (rm_code mM_numberNext) 84 = .ok (.isub, 1) := by decide +kernel
theorem d_M_numberNext_85 : decode (rm_code mM_numberNext) 85 = .ok (.goto (4), 3) := by decide +kernel
theorem d_M_numberNext_88 : decode (rm_code mM_numberNext) 88 = .ok (.iload_n 2, 1) := by decide +kernel
theorem d_M_numberNext_89 : decode (rm_code mM_numberNext) 89 = .ok (.istore_n 2, 1) := by decide +kernel
theorem d_M_numberNext_90 : decode (rm_code mM_numberNext) 90 = .ok (.iload_n 3, 1) := by decide +kernel
theorem d_M_numberNext_91 : decode (rm_code mM_numberNext) 91 = .ok (.iconst 1, 1) := by decide +kernel
theorem d_M_numberNext_92 : decode (rm_code mM_numberNext) 92 = .ok (.iadd, 1) := by decide +kernel
theorem d_M_numberNext_93 : decode (rm_code mM_numberNext) 93 = .ok (.istore_n 3, 1) := by decide +kernel
theorem d_M_numberNext_94 : decode (rm_code mM_numberNext) 94 = .ok (.aload_n 0, 1) := by decide +kernel
theorem d_M_numberNext_95 : decode (rm_code mM_numberNext) 95 = .ok (.aload_n 0, 1) := by decide +kernel
theorem d_M_numberNext_96 : decode (rm_code mM_numberNext) 96 = .ok (.getfield 599, 3) := by decide +kernel
theorem d_M_numberNext_99 : decode (rm_code mM_numberNext) 99 = .ok (.iconst 1, 1) := by decide +kernel
theorem d_M_numberNext_100 : decode (rm_code mM_numberNext) 100 = .ok (.iadd, 1) := by decide +kernel
theorem d_M_numberNext_101 : decode (rm_code mM_numberNext) 101 = .ok (.putfield 599, 3) := by decide +kernel
theorem d_M_numberNext_104 : decode (rm_code mM_numberNext) 104 = .ok (.goto (-64), 3) := by decide +kernel
theorem d_M_numberNext_107 : decode (rm_code mM_numberNext) 107 = .ok (.iload_n 3, 1) := by decide +kernel
theorem d_M_numberNext_108 : decode (rm_code mM_numberNext) 108 = .ok (.ifCond .eq (15), 3) := by decide +kernel
theorem d_M_numberNext_111 : decode (rm_code mM_numberNext) 111 = .ok (.iload_n 3, 1) := by decide +kernel
theorem d_M_numberNext_112 : decode (rm_code mM_numberNext) 112 = .ok (.iconst 3, 1) := by decide +kernel
theorem d_M_numberNext_113 : decode (rm_code mM_numberNext) 113 = .ok (.if_icmp .gt (10), 3) := by decide +kernel
theorem d_M_numberNext_116 : decode (rm_code mM_numberNext) 116 = .ok (.iload_n 2, 1) := by decide +kernel
theorem d_M_numberNext_117 : decode (rm_code mM_numberNext) 117 = .ok (.sipush (255), 3) := by decide +kernel
theorem d_M_numberNext_120 : decode (rm_code mM_numberNext) 120 = .ok (.if_icmp .le (9), 3) := by decide +kernel
theorem d_M_numberNext_123 : decode (rm_code mM_numberNext) 123 = .ok (.aload_n 0, 1) := by decide +kernel
theorem d_M_numberNext_124 : decode (rm_code mM_numberNext) 124 = .ok (.bipush (30), 2) := by decide +kernel
theorem d_M_numberNext_126 : decode (rm_code mM_numberNext) 126 = .ok (.putfield 602, 3) := by decide +kernel
theorem d_M_numberNext_129 : decode (rm_code mM_numberNext) 129 = .ok (.iload_n 2, 1) := by decide +kernel
theorem d_M_numberNext_130 : decode (rm_code mM_numberNext) 130 = .ok (.ireturn, 1) := by decide +kernel
theorem p_M_numberNext_0 {S : rz_S} {K : Int32 → rz_S → Prop} {a1 : Int32} (w : ((a1 ≤ S.2 116 72 → rz mM_numberNext 40 [(0, .ref 116), (1, .int a1), (2, .int 0), (3, .int 0)] [] S (rz_i K)) ∧ (¬ a1 ≤ S.2 116 72 → rx_in (S.2 116 72) 401 = true ∧ rz_ev mM_isDigit [.int (S.1 151 ((S.2 116 72).toNatClampNeg))] S (rz_i (fun xq2 Sq2 => ((xq2 = 0 → rz mM_numberNext 0 [(0, .ref 116), (1, .int a1)] [] (rz_uI Sq2 116 72 ((Sq2.2 116 72) + 1)) (rz_i K)) ∧ (¬ xq2 = 0 → rz mM_numberNext 40 [(0, .ref 116), (1, .int a1), (2, .int 0), (3, .int 0)] [] Sq2 (rz_i K)))))))) : rz mM_numberNext 0 [(0, .ref 116), (1, .int a1)] [] S (rz_i K) := by
  refine rz_pure (pc' := 1) d_M_numberNext_0 rfl ?_
  refine rz_getiv (v := S.2 116 72) d_M_numberNext_1 f_12_599 rfl rfl rfl ?_
  refine rz_pure (pc' := 5) d_M_numberNext_4 rfl ?_
  refine rz_icmpge (tgt := 36) d_M_numberNext_5 rfl (fun b1 => ?_) (fun b1 => ?_)
  · skip
    refine rz_iconst (v := 0) d_M_numberNext_36 (by decide) ?_
    refine rz_pure (pc' := 38) (l' := [(2, .int 0), (0, .ref 116), (1, .int a1)]) d_M_numberNext_37 rfl ?_
    refine rz_iconst (v := 0) d_M_numberNext_38 (by decide) ?_
    refine rz_pure (pc' := 40) (l' := [(3, .int 0), (2, .int 0), (0, .ref 116), (1, .int a1)]) d_M_numberNext_39 rfl ?_
    exact rz_pick (ks := [0, 1, 2, 3]) (l := [(0, .ref 116), (1, .int a1), (2, .int 0), (3, .int 0)]) rfl rfl (by decide) rfl (w.1 b1)
  · skip
    refine rz_pure (pc' := 9) d_M_numberNext_8 rfl ?_
    refine rz_getr d_M_numberNext_9 f_12_260 rfl rfl ?_
    refine rz_pure (pc' := 13) d_M_numberNext_12 rfl ?_
    refine rz_getiv (v := S.2 116 72) d_M_numberNext_13 f_12_599 rfl rfl rfl ?_
    refine rz_ialdv (F := S.1 151) (i := (S.2 116 72).toNatClampNeg) d_M_numberNext_16 rfl (w.2 b1).1 rfl rfl ?_
    refine rz_callSi (t := [.int (S.1 151 ((S.2 116 72).toNatClampNeg))]) d_M_numberNext_17 rfl w_12_605 rfl rfl (w.2 b1).2 (fun xq2 Sq2 q2 => ?_)
    refine rz_ifne (tgt := 36) d_M_numberNext_20 rfl (fun b3 => ?_) (fun b3 => ?_)
    · skip
      refine rz_iconst (v := 0) d_M_numberNext_36 (by decide) ?_
      refine rz_pure (pc' := 38) (l' := [(2, .int 0), (0, .ref 116), (1, .int a1)]) d_M_numberNext_37 rfl ?_
      refine rz_iconst (v := 0) d_M_numberNext_38 (by decide) ?_
      refine rz_pure (pc' := 40) (l' := [(3, .int 0), (2, .int 0), (0, .ref 116), (1, .int a1)]) d_M_numberNext_39 rfl ?_
      exact rz_pick (ks := [0, 1, 2, 3]) (l := [(0, .ref 116), (1, .int a1), (2, .int 0), (3, .int 0)]) rfl rfl (by decide) rfl (q2.2 b3)
    · skip
      refine rz_pure (pc' := 24) d_M_numberNext_23 rfl ?_
      refine rz_pure (pc' := 25) d_M_numberNext_24 rfl ?_
      refine rz_getiv (v := Sq2.2 116 72) d_M_numberNext_25 f_12_599 rfl rfl rfl ?_
      refine rz_iconst (v := 1) d_M_numberNext_28 (by decide) ?_
      refine rz_iadd d_M_numberNext_29 ?_
      refine rz_puti d_M_numberNext_30 f_12_599 rfl rfl rfl ?_
      refine rz_pure (pc' := 0) d_M_numberNext_33 rfl ?_
      exact rz_pick (ks := [0, 1]) (l := [(0, .ref 116), (1, .int a1)]) rfl rfl (by decide) rfl (q2.1 b3)
theorem p_M_numberNext_40 {S : rz_S} {K : Int32 → rz_S → Prop} {a1 : Int32} {a2 : Int32} {a3 : Int32} (w : ((a1 ≤ S.2 116 72 → rz mM_numberNext 107 [(0, .ref 116), (2, .int a2), (3, .int a3)] [] S (rz_i K)) ∧ (¬ a1 ≤ S.2 116 72 → rx_in (S.2 116 72) 401 = true ∧ rz_ev mM_isDigit [.int (S.1 151 ((S.2 116 72).toNatClampNeg))] S (rz_i (fun xq2 Sq2 => ((xq2 = 0 → rz mM_numberNext 107 [(0, .ref 116), (2, .int a2), (3, .int a3)] [] Sq2 (rz_i K)) ∧ (¬ xq2 = 0 → ((3 ≤ a3 → rz mM_numberNext 89 [(0, .ref 116), (1, .int a1), (3, .int a3)] [.int a2] Sq2 (rz_i K)) ∧ (¬ 3 ≤ a3 → rx_in (Sq2.2 116 72) 401 = true ∧ rz mM_numberNext 89 [(0, .ref 116), (1, .int a1), (3, .int a3)] [.int (((10 * a2) + (Sq2.1 151 ((Sq2.2 116 72).toNatClampNeg))) - 48)] Sq2 (rz_i K)))))))))) : rz mM_numberNext 40 [(0, .ref 116), (1, .int a1), (2, .int a2), (3, .int a3)] [] S (rz_i K) := by
  refine rz_pure (pc' := 41) d_M_numberNext_40 rfl ?_
  refine rz_getiv (v := S.2 116 72) d_M_numberNext_41 f_12_599 rfl rfl rfl ?_
  refine rz_pure (pc' := 45) d_M_numberNext_44 rfl ?_
  refine rz_icmpge (tgt := 107) d_M_numberNext_45 rfl (fun b1 => ?_) (fun b1 => ?_)
  · skip
    exact rz_pick (ks := [0, 2, 3]) (l := [(0, .ref 116), (2, .int a2), (3, .int a3)]) rfl rfl (by decide) rfl (w.1 b1)
  · skip
    refine rz_pure (pc' := 49) d_M_numberNext_48 rfl ?_
    refine rz_getr d_M_numberNext_49 f_12_260 rfl rfl ?_
    refine rz_pure (pc' := 53) d_M_numberNext_52 rfl ?_
    refine rz_getiv (v := S.2 116 72) d_M_numberNext_53 f_12_599 rfl rfl rfl ?_
    refine rz_ialdv (F := S.1 151) (i := (S.2 116 72).toNatClampNeg) d_M_numberNext_56 rfl (w.2 b1).1 rfl rfl ?_
    refine rz_callSi (t := [.int (S.1 151 ((S.2 116 72).toNatClampNeg))]) d_M_numberNext_57 rfl w_12_605 rfl rfl (w.2 b1).2 (fun xq2 Sq2 q2 => ?_)
    refine rz_ifeq (tgt := 107) d_M_numberNext_60 rfl (fun b3 => ?_) (fun b3 => ?_)
    · skip
      exact rz_pick (ks := [0, 2, 3]) (l := [(0, .ref 116), (2, .int a2), (3, .int a3)]) rfl rfl (by decide) rfl (q2.1 b3)
    · skip
      refine rz_pure (pc' := 64) d_M_numberNext_63 rfl ?_
      refine rz_iconst (v := 3) d_M_numberNext_64 (by decide) ?_
      refine rz_icmpge (tgt := 88) d_M_numberNext_65 rfl (fun b4 => ?_) (fun b4 => ?_)
      · skip
        refine rz_pure (pc' := 89) d_M_numberNext_88 rfl ?_
        exact rz_pick (ks := [0, 1, 3]) (l := [(0, .ref 116), (1, .int a1), (3, .int a3)]) rfl rfl (by decide) rfl ((q2.2 b3).1 b4)
      · skip
        refine rz_bipush (v := 10) d_M_numberNext_68 (by decide) ?_
        refine rz_pure (pc' := 71) d_M_numberNext_70 rfl ?_
        refine rz_imul d_M_numberNext_71 ?_
        refine rz_pure (pc' := 73) d_M_numberNext_72 rfl ?_
        refine rz_getr d_M_numberNext_73 f_12_260 rfl rfl ?_
        refine rz_pure (pc' := 77) d_M_numberNext_76 rfl ?_
        refine rz_getiv (v := Sq2.2 116 72) d_M_numberNext_77 f_12_599 rfl rfl rfl ?_
        refine rz_ialdv (F := Sq2.1 151) (i := (Sq2.2 116 72).toNatClampNeg) d_M_numberNext_80 rfl ((q2.2 b3).2 b4).1 rfl rfl ?_
        refine rz_iadd d_M_numberNext_81 ?_
        refine rz_bipush (v := 48) d_M_numberNext_82 (by decide) ?_
        refine rz_isub d_M_numberNext_84 ?_
        refine rz_pure (pc' := 89) d_M_numberNext_85 rfl ?_
        exact rz_pick (ks := [0, 1, 3]) (l := [(0, .ref 116), (1, .int a1), (3, .int a3)]) rfl rfl (by decide) rfl ((q2.2 b3).2 b4).2
theorem p_M_numberNext_107 {S : rz_S} {K : Int32 → rz_S → Prop} {a2 : Int32} {a3 : Int32} (w : ((a3 = 0 → K a2 (rz_uI S 116 73 30)) ∧ (¬ a3 = 0 → ((3 < a3 → K a2 (rz_uI S 116 73 30)) ∧ (¬ 3 < a3 → ((a2 ≤ 255 → K a2 S) ∧ (¬ a2 ≤ 255 → K a2 (rz_uI S 116 73 30)))))))) : rz mM_numberNext 107 [(0, .ref 116), (2, .int a2), (3, .int a3)] [] S (rz_i K) := by
  refine rz_pure (pc' := 108) d_M_numberNext_107 rfl ?_
  refine rz_ifeq (tgt := 123) d_M_numberNext_108 rfl (fun b1 => ?_) (fun b1 => ?_)
  · skip
    refine rz_pure (pc' := 124) d_M_numberNext_123 rfl ?_
    refine rz_bipush (v := 30) d_M_numberNext_124 (by decide) ?_
    refine rz_puti d_M_numberNext_126 f_12_602 rfl rfl rfl ?_
    refine rz_pure (pc' := 130) d_M_numberNext_129 rfl ?_
    exact rz_ireti d_M_numberNext_130 rfl rfl (w.1 b1)
  · skip
    refine rz_pure (pc' := 112) d_M_numberNext_111 rfl ?_
    refine rz_iconst (v := 3) d_M_numberNext_112 (by decide) ?_
    refine rz_icmpgt (tgt := 123) d_M_numberNext_113 rfl (fun b2 => ?_) (fun b2 => ?_)
    · skip
      refine rz_pure (pc' := 124) d_M_numberNext_123 rfl ?_
      refine rz_bipush (v := 30) d_M_numberNext_124 (by decide) ?_
      refine rz_puti d_M_numberNext_126 f_12_602 rfl rfl rfl ?_
      refine rz_pure (pc' := 130) d_M_numberNext_129 rfl ?_
      exact rz_ireti d_M_numberNext_130 rfl rfl ((w.2 b1).1 b2)
    · skip
      refine rz_pure (pc' := 117) d_M_numberNext_116 rfl ?_
      refine rz_sipush (v := 255) d_M_numberNext_117 (by decide) ?_
      refine rz_icmple (tgt := 129) d_M_numberNext_120 rfl (fun b3 => ?_) (fun b3 => ?_)
      · skip
        refine rz_pure (pc' := 130) d_M_numberNext_129 rfl ?_
        exact rz_ireti d_M_numberNext_130 rfl rfl (((w.2 b1).2 b2).1 b3)
      · skip
        refine rz_pure (pc' := 124) d_M_numberNext_123 rfl ?_
        refine rz_bipush (v := 30) d_M_numberNext_124 (by decide) ?_
        refine rz_puti d_M_numberNext_126 f_12_602 rfl rfl rfl ?_
        refine rz_pure (pc' := 130) d_M_numberNext_129 rfl ?_
        exact rz_ireti d_M_numberNext_130 rfl rfl (((w.2 b1).2 b2).2 b3)
theorem p_M_numberNext_89 {S : rz_S} {K : Int32 → rz_S → Prop} {a1 : Int32} {a3 : Int32} {s0 : Int32} (w : rz mM_numberNext 40 [(0, .ref 116), (1, .int a1), (2, .int s0), (3, .int (a3 + 1))] [] (rz_uI S 116 72 ((S.2 116 72) + 1)) (rz_i K)) : rz mM_numberNext 89 [(0, .ref 116), (1, .int a1), (3, .int a3)] [.int s0] S (rz_i K) := by
  refine rz_pure (pc' := 90) (l' := [(2, .int s0), (0, .ref 116), (1, .int a1), (3, .int a3)]) d_M_numberNext_89 rfl ?_
  refine rz_pure (pc' := 91) d_M_numberNext_90 rfl ?_
  refine rz_iconst (v := 1) d_M_numberNext_91 (by decide) ?_
  refine rz_iadd d_M_numberNext_92 ?_
  refine rz_pure (pc' := 94) (l' := [(3, .int (a3 + 1)), (2, .int s0), (0, .ref 116), (1, .int a1)]) d_M_numberNext_93 rfl ?_
  refine rz_pure (pc' := 95) d_M_numberNext_94 rfl ?_
  refine rz_pure (pc' := 96) d_M_numberNext_95 rfl ?_
  refine rz_getiv (v := S.2 116 72) d_M_numberNext_96 f_12_599 rfl rfl rfl ?_
  refine rz_iconst (v := 1) d_M_numberNext_99 (by decide) ?_
  refine rz_iadd d_M_numberNext_100 ?_
  refine rz_puti d_M_numberNext_101 f_12_599 rfl rfl rfl ?_
  refine rz_pure (pc' := 40) d_M_numberNext_104 rfl ?_
  exact rz_pick (ks := [0, 1, 2, 3]) (l := [(0, .ref 116), (1, .int a1), (2, .int s0), (3, .int (a3 + 1))]) rfl rfl (by decide) rfl w
theorem d_M_blockOf_0 : decode (rm_code mM_blockOf) 0 = .ok (.aload_n 0, 1) := by decide +kernel
theorem d_M_blockOf_1 : decode (rm_code mM_blockOf) 1 = .ok (.iload_n 1, 1) := by decide +kernel
theorem d_M_blockOf_2 : decode (rm_code mM_blockOf) 2 = .ok (.invokevirtual 608, 3) := by decide +kernel
theorem d_M_blockOf_5 : decode (rm_code mM_blockOf) 5 = .ok (.ifCond .ne (12), 3) := by decide +kernel
theorem d_M_blockOf_8 : decode (rm_code mM_blockOf) 8 = .ok (.aload_n 0, 1) := by decide +kernel
theorem d_M_blockOf_9 : decode (rm_code mM_blockOf) 9 = .ok (.bipush (30), 2) := by decide +kernel
theorem d_M_blockOf_11 : decode (rm_code mM_blockOf) 11 = .ok (.iconst 0, 1) := by decide +kernel
theorem d_M_blockOf_12 : decode (rm_code mM_blockOf) 12 = .ok (.iconst 0, 1) := by decide +kernel
theorem d_M_blockOf_13 : decode (rm_code mM_blockOf) 13 = .ok (.invokevirtual 113, 3) := by decide +kernel
theorem d_M_blockOf_16 : decode (rm_code mM_blockOf) 16 = .ok (.ireturn, 1) := by decide +kernel
theorem d_M_blockOf_17 : decode (rm_code mM_blockOf) 17 = .ok (.aload_n 0, 1) := by decide +kernel
theorem d_M_blockOf_18 : decode (rm_code mM_blockOf) 18 = .ok (.iload_n 1, 1) := by decide +kernel
theorem d_M_blockOf_19 : decode (rm_code mM_blockOf) 19 = .ok (.invokevirtual 611, 3) := by decide +kernel
theorem d_M_blockOf_22 : decode (rm_code mM_blockOf) 22 = .ok (.istore_n 3, 1) := by decide +kernel
theorem d_M_blockOf_23 : decode (rm_code mM_blockOf) 23 = .ok (.aload_n 0, 1) := by decide +kernel
theorem d_M_blockOf_24 : decode (rm_code mM_blockOf) 24 = .ok (.iload_n 1, 1) := by decide +kernel
theorem d_M_blockOf_25 : decode (rm_code mM_blockOf) 25 = .ok (.invokevirtual 611, 3) := by decide +kernel
theorem d_M_blockOf_28 : decode (rm_code mM_blockOf) 28 = .ok (.istore 4, 2) := by decide +kernel
theorem d_M_blockOf_30 : decode (rm_code mM_blockOf) 30 = .ok (.aload_n 0, 1) := by decide +kernel
theorem d_M_blockOf_31 : decode (rm_code mM_blockOf) 31 = .ok (.iload_n 1, 1) := by decide +kernel
theorem d_M_blockOf_32 : decode (rm_code mM_blockOf) 32 = .ok (.invokevirtual 611, 3) := by decide +kernel
theorem d_M_blockOf_35 : decode (rm_code mM_blockOf) 35 = .ok (.istore 5, 2) := by decide +kernel
theorem d_M_blockOf_37 : decode (rm_code mM_blockOf) 37 = .ok (.aload_n 0, 1) := by decide +kernel
theorem d_M_blockOf_38 : decode (rm_code mM_blockOf) 38 = .ok (.getfield 602, 3) := by decide +kernel
theorem d_M_blockOf_41 : decode (rm_code mM_blockOf) 41 = .ok (.ifCond .eq (12), 3) := by decide +kernel
theorem d_M_blockOf_44 : decode (rm_code mM_blockOf) 44 = .ok (.aload_n 0, 1) := by decide +kernel
theorem d_M_blockOf_45 : decode (rm_code mM_blockOf) 45 = .ok (.bipush (30), 2) := by decide +kernel
theorem d_M_blockOf_47 : decode (rm_code mM_blockOf) 47 = .ok (.iconst 0, 1) := by decide +kernel
theorem d_M_blockOf_48 : decode (rm_code mM_blockOf) 48 = .ok (.iconst 0, 1) := by decide +kernel
theorem d_M_blockOf_49 : decode (rm_code mM_blockOf) 49 = .ok (.invokevirtual 113, 3) := by decide +kernel
theorem d_M_blockOf_52 : decode (rm_code mM_blockOf) 52 = .ok (.ireturn, 1) := by decide +kernel
theorem d_M_blockOf_53 : decode (rm_code mM_blockOf) 53 = .ok (.iload_n 3, 1) := by decide +kernel
theorem d_M_blockOf_54 : decode (rm_code mM_blockOf) 54 = .ok (.bipush (14), 2) := by decide +kernel
theorem d_M_blockOf_56 : decode (rm_code mM_blockOf) 56 = .ok (.if_icmp .gt (13), 3) := by decide +kernel
theorem d_M_blockOf_59 : decode (rm_code mM_blockOf) 59 = .ok (.aload_n 0, 1) := by decide +kernel
theorem d_M_blockOf_60 : decode (rm_code mM_blockOf) 60 = .ok (.getfield 248, 3) := by decide +kernel
theorem d_M_blockOf_63 : decode (rm_code mM_blockOf) 63 = .ok (.iload_n 3, 1) := by decide +kernel
theorem d_M_blockOf_64 : decode (rm_code mM_blockOf) 64 = .ok (.iaload, 1) := by decide +kernel
theorem d_M_blockOf_65 : decode (rm_code mM_blockOf) 65 = .ok (.iconst 4, 1) := by decide +kernel
theorem d_M_blockOf_66 : decode (rm_code mM_blockOf) 66 = .ok (.if_icmp .eq (12), 3) := by decide +kernel
theorem d_M_blockOf_69 : decode (rm_code mM_blockOf) 69 = .ok (.aload_n 0, 1) := by decide +kernel
theorem d_M_blockOf_70 : decode (rm_code mM_blockOf) 70 = .ok (.bipush (70), 2) := by decide +kernel
theorem d_M_blockOf_72 : decode (rm_code mM_blockOf) 72 = .ok (.iconst 0, 1) := by decide +kernel
theorem d_M_blockOf_73 : decode (rm_code mM_blockOf) 73 = .ok (.iconst 0, 1) := by decide +kernel
theorem d_M_blockOf_74 : decode (rm_code mM_blockOf) 74 = .ok (.invokevirtual 113, 3) := by decide +kernel
theorem d_M_blockOf_77 : decode (rm_code mM_blockOf) 77 = .ok (.ireturn, 1) := by decide +kernel
theorem d_M_blockOf_78 : decode (rm_code mM_blockOf) 78 = .ok (.iload 4, 2) := by decide +kernel
theorem d_M_blockOf_80 : decode (rm_code mM_blockOf) 80 = .ok (.iload 5, 2) := by decide +kernel
theorem d_M_blockOf_82 : decode (rm_code mM_blockOf) 82 = .ok (.invokestatic 161, 3) := by decide +kernel
theorem d_M_blockOf_85 : decode (rm_code mM_blockOf) 85 = .ok (.ifCond .ne (14), 3) := by decide +kernel
theorem d_M_blockOf_88 : decode (rm_code mM_blockOf) 88 = .ok (.aload_n 0, 1) := by decide +kernel
theorem d_M_blockOf_89 : decode (rm_code mM_blockOf) 89 = .ok (.bipush (66), 2) := by decide +kernel
theorem d_M_blockOf_91 : decode (rm_code mM_blockOf) 91 = .ok (.iload 4, 2) := by decide +kernel
theorem d_M_blockOf_93 : decode (rm_code mM_blockOf) 93 = .ok (.iload 5, 2) := by decide +kernel
theorem d_M_blockOf_95 : decode (rm_code mM_blockOf) 95 = .ok (.invokevirtual 113, 3) := by decide +kernel
theorem d_M_blockOf_98 : decode (rm_code mM_blockOf) 98 = .ok (.ireturn, 1) := by decide +kernel
theorem d_M_blockOf_99 : decode (rm_code mM_blockOf) 99 = .ok (.iload_n 2, 1) := by decide +kernel
theorem d_M_blockOf_100 : decode (rm_code mM_blockOf) 100 = .ok (.ifCond .eq (20), 3) := by decide +kernel
theorem d_M_blockOf_103 : decode (rm_code mM_blockOf) 103 = .ok (.aload_n 0, 1) := by decide +kernel
theorem d_M_blockOf_104 : decode (rm_code mM_blockOf) 104 = .ok (.iload 4, 2) := by decide +kernel
theorem d_M_blockOf_106 : decode (rm_code mM_blockOf) 106 = .ok (.iload 5, 2) := by decide +kernel
theorem d_M_blockOf_108 : decode (rm_code mM_blockOf) 108 = .ok (.aload_n 0, 1) := by decide +kernel
theorem d_M_blockOf_109 : decode (rm_code mM_blockOf) 109 = .ok (.getfield 284, 3) := by decide +kernel
theorem d_M_blockOf_112 : decode (rm_code mM_blockOf) 112 = .ok (.bipush (64), 2) := by decide +kernel
theorem d_M_blockOf_114 : decode (rm_code mM_blockOf) 114 = .ok (.iload_n 3, 1) := by decide +kernel
theorem d_M_blockOf_115 : decode (rm_code mM_blockOf) 115 = .ok (.imul, 1) := by decide +kernel
theorem d_M_blockOf_116 : decode (rm_code mM_blockOf) 116 = .ok (.invokevirtual 152, 3) := by decide +kernel
theorem d_M_blockOf_119 : decode (rm_code mM_blockOf) 119 = .ok (.ireturn, 1) := by decide +kernel
theorem d_M_blockOf_120 : decode (rm_code mM_blockOf) 120 = .ok (.aload_n 0, 1) := by decide +kernel
theorem d_M_blockOf_121 : decode (rm_code mM_blockOf) 121 = .ok (.iload 4, 2) := by decide +kernel
theorem d_M_blockOf_123 : decode (rm_code mM_blockOf) 123 = .ok (.iload 5, 2) := by decide +kernel
theorem d_M_blockOf_125 : decode (rm_code mM_blockOf) 125 = .ok (.aload_n 0, 1) := by decide +kernel
theorem d_M_blockOf_126 : decode (rm_code mM_blockOf) 126 = .ok (.getfield 284, 3) := by decide +kernel
theorem d_M_blockOf_129 : decode (rm_code mM_blockOf) 129 = .ok (.bipush (64), 2) := by decide +kernel
theorem d_M_blockOf_131 : decode (rm_code mM_blockOf) 131 = .ok (.iload_n 3, 1) := by decide +kernel
theorem d_M_blockOf_132 : decode (rm_code mM_blockOf) 132 = .ok (.imul, 1) := by decide +kernel
theorem d_M_blockOf_133 : decode (rm_code mM_blockOf) 133 = .ok (.invokevirtual 148, 3) := by decide +kernel
theorem d_M_blockOf_136 : decode (rm_code mM_blockOf) 136 = .ok (.istore 6, 2) := by decide +kernel
theorem d_M_blockOf_138 : decode (rm_code mM_blockOf) 138 = .ok (.iload 6, 2) := by decide +kernel
theorem d_M_blockOf_140 : decode (rm_code mM_blockOf) 140 = .ok (.ifCond .ne (10), 3) := by decide +kernel
theorem d_M_blockOf_143 : decode (rm_code mM_blockOf) 143 = .ok (.aload_n 0, 1) := by decide +kernel
theorem d_M_blockOf_144 : decode (rm_code mM_blockOf) 144 = .ok (.getfield 287, 3) := by decide +kernel
theorem d_M_blockOf_147 : decode (rm_code mM_blockOf) 147 = .ok (.iload_n 3, 1) := by decide +kernel
theorem d_M_blockOf_148 : decode (rm_code mM_blockOf) 148 = .ok (.iconst 0, 1) := by decide +kernel
theorem d_M_blockOf_149 : decode (rm_code mM_blockOf) 149 = .ok (.iastore, 1) := by decide +kernel
theorem d_M_blockOf_150 : decode (rm_code mM_blockOf) 150 = .ok (.iload 6, 2) := by decide +kernel
theorem d_M_blockOf_152 : decode (rm_code mM_blockOf) 152 = .ok (.ireturn, 1) := by decide +kernel
theorem p_M_blockOf_0 {S : rz_S} {K : Int32 → rz_S → Prop} {a1 : Int32} {a2 : Int32} (w : rz_ev mM_numbers [.ref 116, .int a1] S (rz_i (fun xq1 Sq1 => ((xq1 = 0 → rz_ev mM_fault [.ref 116, .int 30, .int 0, .int 0] Sq1 (rz_i (fun xq17 Sq17 => K xq17 Sq17))) ∧ (¬ xq1 = 0 → rz_ev mM_numberNext [.ref 116, .int a1] Sq1 (rz_i (fun xq3 Sq3 => rz_ev mM_numberNext [.ref 116, .int a1] Sq3 (rz_i (fun xq4 Sq4 => rz_ev mM_numberNext [.ref 116, .int a1] Sq4 (rz_i (fun xq5 Sq5 => ((Sq5.2 116 73 = 0 → ((14 < xq3 → rz mM_blockOf 69 [(0, .ref 116)] [] Sq5 (rz_i K)) ∧ (¬ 14 < xq3 → rx_in xq3 15 = true ∧ ((Sq5.1 126 xq3.toNatClampNeg = 4 → rz_ev mM_isLegal [.int xq4, .int xq5] Sq5 (rz_i (fun xq9 Sq9 => ((xq9 = 0 → rz_ev mM_fault [.ref 116, .int 66, .int xq4, .int xq5] Sq9 (rz_i (fun xq15 Sq15 => K xq15 Sq15))) ∧ (¬ xq9 = 0 → ((a2 = 0 → rz_ev mM_readBlock [.ref 116, .int xq4, .int xq5, .ref 127, .int (64 * xq3)] Sq9 (rz_i (fun xq12 Sq12 => ((xq12 = 0 → K xq12 (rz_fA Sq12 128 (upd (Sq12.1 128) xq3.toNatClampNeg 0))) ∧ (¬ xq12 = 0 → K xq12 Sq12))))) ∧ (¬ a2 = 0 → rz_ev mM_writeBlock [.ref 116, .int xq4, .int xq5, .ref 127, .int (64 * xq3)] Sq9 (rz_i (fun xq14 Sq14 => K xq14 Sq14))))))))) ∧ (¬ Sq5.1 126 xq3.toNatClampNeg = 4 → rz mM_blockOf 69 [(0, .ref 116)] [] Sq5 (rz_i K)))))) ∧ (¬ Sq5.2 116 73 = 0 → rz_ev mM_fault [.ref 116, .int 30, .int 0, .int 0] Sq5 (rz_i (fun xq16 Sq16 => K xq16 Sq16))))))))))))))) : rz mM_blockOf 0 [(0, .ref 116), (1, .int a1), (2, .int a2)] [] S (rz_i K) := by
  refine rz_pure (pc' := 1) d_M_blockOf_0 rfl ?_
  refine rz_pure (pc' := 2) d_M_blockOf_1 rfl ?_
  refine rz_callVi (t := [.int a1]) d_M_blockOf_2 w_12_608 rfl rfl rfl w (fun xq1 Sq1 q1 => ?_)
  refine rz_ifne (tgt := 17) d_M_blockOf_5 rfl (fun b2 => ?_) (fun b2 => ?_)
  · skip
    refine rz_pure (pc' := 18) d_M_blockOf_17 rfl ?_
    refine rz_pure (pc' := 19) d_M_blockOf_18 rfl ?_
    refine rz_callVi (t := [.int a1]) d_M_blockOf_19 w_12_611 rfl rfl rfl (q1.2 b2) (fun xq3 Sq3 q3 => ?_)
    refine rz_pure (pc' := 23) (l' := [(3, .int xq3), (0, .ref 116), (1, .int a1), (2, .int a2)]) d_M_blockOf_22 rfl ?_
    refine rz_pure (pc' := 24) d_M_blockOf_23 rfl ?_
    refine rz_pure (pc' := 25) d_M_blockOf_24 rfl ?_
    refine rz_callVi (t := [.int a1]) d_M_blockOf_25 w_12_611 rfl rfl rfl q3 (fun xq4 Sq4 q4 => ?_)
    refine rz_pure (pc' := 30) (l' := [(4, .int xq4), (3, .int xq3), (0, .ref 116), (1, .int a1), (2, .int a2)]) d_M_blockOf_28 rfl ?_
    refine rz_pure (pc' := 31) d_M_blockOf_30 rfl ?_
    refine rz_pure (pc' := 32) d_M_blockOf_31 rfl ?_
    refine rz_callVi (t := [.int a1]) d_M_blockOf_32 w_12_611 rfl rfl rfl q4 (fun xq5 Sq5 q5 => ?_)
    refine rz_pure (pc' := 37) (l' := [(5, .int xq5), (4, .int xq4), (3, .int xq3), (0, .ref 116), (1, .int a1), (2, .int a2)]) d_M_blockOf_35 rfl ?_
    refine rz_pure (pc' := 38) d_M_blockOf_37 rfl ?_
    refine rz_getiv (v := Sq5.2 116 73) d_M_blockOf_38 f_12_602 rfl rfl rfl ?_
    refine rz_ifeq (tgt := 53) d_M_blockOf_41 rfl (fun b6 => ?_) (fun b6 => ?_)
    · skip
      refine rz_pure (pc' := 54) d_M_blockOf_53 rfl ?_
      refine rz_bipush (v := 14) d_M_blockOf_54 (by decide) ?_
      refine rz_icmpgt (tgt := 69) d_M_blockOf_56 rfl (fun b7 => ?_) (fun b7 => ?_)
      · skip
        exact rz_pick (ks := [0]) (l := [(0, .ref 116)]) rfl rfl (by decide) rfl ((q5.1 b6).1 b7)
      · skip
        refine rz_pure (pc' := 60) d_M_blockOf_59 rfl ?_
        refine rz_getr d_M_blockOf_60 f_12_248 rfl rfl ?_
        refine rz_pure (pc' := 64) d_M_blockOf_63 rfl ?_
        refine rz_ialdv (F := Sq5.1 126) (i := xq3.toNatClampNeg) d_M_blockOf_64 rfl ((q5.1 b6).2 b7).1 rfl rfl ?_
        refine rz_iconst (v := 4) d_M_blockOf_65 (by decide) ?_
        refine rz_icmpeq (tgt := 78) d_M_blockOf_66 rfl (fun b8 => ?_) (fun b8 => ?_)
        · skip
          refine rz_pure (pc' := 80) d_M_blockOf_78 rfl ?_
          refine rz_pure (pc' := 82) d_M_blockOf_80 rfl ?_
          refine rz_callSi (t := [.int xq5, .int xq4]) d_M_blockOf_82 rfl w_12_161 rfl rfl (((q5.1 b6).2 b7).2.1 b8) (fun xq9 Sq9 q9 => ?_)
          refine rz_ifne (tgt := 99) d_M_blockOf_85 rfl (fun b10 => ?_) (fun b10 => ?_)
          · skip
            refine rz_pure (pc' := 100) d_M_blockOf_99 rfl ?_
            refine rz_ifeq (tgt := 120) d_M_blockOf_100 rfl (fun b11 => ?_) (fun b11 => ?_)
            · skip
              refine rz_pure (pc' := 121) d_M_blockOf_120 rfl ?_
              refine rz_pure (pc' := 123) d_M_blockOf_121 rfl ?_
              refine rz_pure (pc' := 125) d_M_blockOf_123 rfl ?_
              refine rz_pure (pc' := 126) d_M_blockOf_125 rfl ?_
              refine rz_getr d_M_blockOf_126 f_12_284 rfl rfl ?_
              refine rz_bipush (v := 64) d_M_blockOf_129 (by decide) ?_
              refine rz_pure (pc' := 132) d_M_blockOf_131 rfl ?_
              refine rz_imul d_M_blockOf_132 ?_
              refine rz_callVi (t := [.int (64 * xq3), .ref 127, .int xq5, .int xq4]) d_M_blockOf_133 w_12_148 rfl rfl rfl ((q9.2 b10).1 b11) (fun xq12 Sq12 q12 => ?_)
              refine rz_pure (pc' := 138) (l' := [(6, .int xq12), (5, .int xq5), (4, .int xq4), (3, .int xq3), (0, .ref 116), (1, .int a1), (2, .int a2)]) d_M_blockOf_136 rfl ?_
              refine rz_pure (pc' := 140) d_M_blockOf_138 rfl ?_
              refine rz_ifne (tgt := 150) d_M_blockOf_140 rfl (fun b13 => ?_) (fun b13 => ?_)
              · skip
                refine rz_pure (pc' := 152) d_M_blockOf_150 rfl ?_
                exact rz_ireti d_M_blockOf_152 rfl rfl (q12.2 b13)
              · skip
                refine rz_pure (pc' := 144) d_M_blockOf_143 rfl ?_
                refine rz_getr d_M_blockOf_144 f_12_287 rfl rfl ?_
                refine rz_pure (pc' := 148) d_M_blockOf_147 rfl ?_
                refine rz_iconst (v := 0) d_M_blockOf_148 (by decide) ?_
                refine rz_iastv (F := Sq12.1 128) (i := xq3.toNatClampNeg) d_M_blockOf_149 rfl ((q5.1 b6).2 b7).1 rfl rfl ?_
                refine rz_pure (pc' := 152) d_M_blockOf_150 rfl ?_
                exact rz_ireti d_M_blockOf_152 rfl rfl (q12.1 b13)
            · skip
              refine rz_pure (pc' := 104) d_M_blockOf_103 rfl ?_
              refine rz_pure (pc' := 106) d_M_blockOf_104 rfl ?_
              refine rz_pure (pc' := 108) d_M_blockOf_106 rfl ?_
              refine rz_pure (pc' := 109) d_M_blockOf_108 rfl ?_
              refine rz_getr d_M_blockOf_109 f_12_284 rfl rfl ?_
              refine rz_bipush (v := 64) d_M_blockOf_112 (by decide) ?_
              refine rz_pure (pc' := 115) d_M_blockOf_114 rfl ?_
              refine rz_imul d_M_blockOf_115 ?_
              refine rz_callVi (t := [.int (64 * xq3), .ref 127, .int xq5, .int xq4]) d_M_blockOf_116 w_12_152 rfl rfl rfl ((q9.2 b10).2 b11) (fun xq14 Sq14 q14 => ?_)
              exact rz_ireti d_M_blockOf_119 rfl rfl q14
          · skip
            refine rz_pure (pc' := 89) d_M_blockOf_88 rfl ?_
            refine rz_bipush (v := 66) d_M_blockOf_89 (by decide) ?_
            refine rz_pure (pc' := 93) d_M_blockOf_91 rfl ?_
            refine rz_pure (pc' := 95) d_M_blockOf_93 rfl ?_
            refine rz_callVi (t := [.int xq5, .int xq4, .int 66]) d_M_blockOf_95 w_12_113 rfl rfl rfl (q9.1 b10) (fun xq15 Sq15 q15 => ?_)
            exact rz_ireti d_M_blockOf_98 rfl rfl q15
        · skip
          exact rz_pick (ks := [0]) (l := [(0, .ref 116)]) rfl rfl (by decide) rfl (((q5.1 b6).2 b7).2.2 b8)
    · skip
      refine rz_pure (pc' := 45) d_M_blockOf_44 rfl ?_
      refine rz_bipush (v := 30) d_M_blockOf_45 (by decide) ?_
      refine rz_iconst (v := 0) d_M_blockOf_47 (by decide) ?_
      refine rz_iconst (v := 0) d_M_blockOf_48 (by decide) ?_
      refine rz_callVi (t := [.int 0, .int 0, .int 30]) d_M_blockOf_49 w_12_113 rfl rfl rfl (q5.2 b6) (fun xq16 Sq16 q16 => ?_)
      exact rz_ireti d_M_blockOf_52 rfl rfl q16
  · skip
    refine rz_pure (pc' := 9) d_M_blockOf_8 rfl ?_
    refine rz_bipush (v := 30) d_M_blockOf_9 (by decide) ?_
    refine rz_iconst (v := 0) d_M_blockOf_11 (by decide) ?_
    refine rz_iconst (v := 0) d_M_blockOf_12 (by decide) ?_
    refine rz_callVi (t := [.int 0, .int 0, .int 30]) d_M_blockOf_13 w_12_113 rfl rfl rfl (q1.1 b2) (fun xq17 Sq17 q17 => ?_)
    exact rz_ireti d_M_blockOf_16 rfl rfl q17
theorem p_M_blockOf_69 {S : rz_S} {K : Int32 → rz_S → Prop} (w : rz_ev mM_fault [.ref 116, .int 70, .int 0, .int 0] S (rz_i (fun xq1 Sq1 => K xq1 Sq1))) : rz mM_blockOf 69 [(0, .ref 116)] [] S (rz_i K) := by
  refine rz_pure (pc' := 70) d_M_blockOf_69 rfl ?_
  refine rz_bipush (v := 70) d_M_blockOf_70 (by decide) ?_
  refine rz_iconst (v := 0) d_M_blockOf_72 (by decide) ?_
  refine rz_iconst (v := 0) d_M_blockOf_73 (by decide) ?_
  refine rz_callVi (t := [.int 0, .int 0, .int 70]) d_M_blockOf_74 w_12_113 rfl rfl rfl w (fun xq1 Sq1 q1 => ?_)
  exact rz_ireti d_M_blockOf_77 rfl rfl q1
theorem d_M_pointer_0 : decode (rm_code mM_pointer) 0 = .ok (.aload_n 0, 1) := by decide +kernel
theorem d_M_pointer_1 : decode (rm_code mM_pointer) 1 = .ok (.iload_n 1, 1) := by decide +kernel
theorem d_M_pointer_2 : decode (rm_code mM_pointer) 2 = .ok (.invokevirtual 608, 3) := by decide +kernel
theorem d_M_pointer_5 : decode (rm_code mM_pointer) 5 = .ok (.ifCond .ne (12), 3) := by decide +kernel
theorem d_M_pointer_8 : decode (rm_code mM_pointer) 8 = .ok (.aload_n 0, 1) := by decide +kernel
theorem d_M_pointer_9 : decode (rm_code mM_pointer) 9 = .ok (.bipush (30), 2) := by decide +kernel
theorem d_M_pointer_11 : decode (rm_code mM_pointer) 11 = .ok (.iconst 0, 1) := by decide +kernel
theorem d_M_pointer_12 : decode (rm_code mM_pointer) 12 = .ok (.iconst 0, 1) := by decide +kernel
theorem d_M_pointer_13 : decode (rm_code mM_pointer) 13 = .ok (.invokevirtual 113, 3) := by decide +kernel
theorem d_M_pointer_16 : decode (rm_code mM_pointer) 16 = .ok (.ireturn, 1) := by decide +kernel
theorem d_M_pointer_17 : decode (rm_code mM_pointer) 17 = .ok (.aload_n 0, 1) := by decide +kernel
theorem d_M_pointer_18 : decode (rm_code mM_pointer) 18 = .ok (.iload_n 1, 1) := by decide +kernel
theorem d_M_pointer_19 : decode (rm_code mM_pointer) 19 = .ok (.invokevirtual 611, 3) := by decide +kernel
theorem d_M_pointer_22 : decode (rm_code mM_pointer) 22 = .ok (.istore_n 2, 1) := by decide +kernel
theorem d_M_pointer_23 : decode (rm_code mM_pointer) 23 = .ok (.aload_n 0, 1) := by decide +kernel
theorem d_M_pointer_24 : decode (rm_code mM_pointer) 24 = .ok (.iload_n 1, 1) := by decide +kernel
theorem d_M_pointer_25 : decode (rm_code mM_pointer) 25 = .ok (.invokevirtual 611, 3) := by decide +kernel
theorem d_M_pointer_28 : decode (rm_code mM_pointer) 28 = .ok (.istore_n 3, 1) := by decide +kernel
theorem d_M_pointer_29 : decode (rm_code mM_pointer) 29 = .ok (.aload_n 0, 1) := by decide +kernel
theorem d_M_pointer_30 : decode (rm_code mM_pointer) 30 = .ok (.getfield 602, 3) := by decide +kernel
theorem d_M_pointer_33 : decode (rm_code mM_pointer) 33 = .ok (.ifCond .eq (12), 3) := by decide +kernel
theorem d_M_pointer_36 : decode (rm_code mM_pointer) 36 = .ok (.aload_n 0, 1) := by decide +kernel
theorem d_M_pointer_37 : decode (rm_code mM_pointer) 37 = .ok (.bipush (30), 2) := by decide +kernel
theorem d_M_pointer_39 : decode (rm_code mM_pointer) 39 = .ok (.iconst 0, 1) := by decide +kernel
theorem d_M_pointer_40 : decode (rm_code mM_pointer) 40 = .ok (.iconst 0, 1) := by decide +kernel
theorem d_M_pointer_41 : decode (rm_code mM_pointer) 41 = .ok (.invokevirtual 113, 3) := by decide +kernel
theorem d_M_pointer_44 : decode (rm_code mM_pointer) 44 = .ok (.ireturn, 1) := by decide +kernel
theorem d_M_pointer_45 : decode (rm_code mM_pointer) 45 = .ok (.iload_n 2, 1) := by decide +kernel
theorem d_M_pointer_46 : decode (rm_code mM_pointer) 46 = .ok (.bipush (14), 2) := by decide +kernel
theorem d_M_pointer_48 : decode (rm_code mM_pointer) 48 = .ok (.if_icmp .gt (13), 3) := by decide +kernel
theorem d_M_pointer_51 : decode (rm_code mM_pointer) 51 = .ok (.aload_n 0, 1) := by decide +kernel
theorem d_M_pointer_52 : decode (rm_code mM_pointer) 52 = .ok (.getfield 248, 3) := by decide +kernel
theorem d_M_pointer_55 : decode (rm_code mM_pointer) 55 = .ok (.iload_n 2, 1) := by decide +kernel
theorem d_M_pointer_56 : decode (rm_code mM_pointer) 56 = .ok (.iaload, 1) := by decide +kernel
theorem d_M_pointer_57 : decode (rm_code mM_pointer) 57 = .ok (.iconst 4, 1) := by decide +kernel
theorem d_M_pointer_58 : decode (rm_code mM_pointer) 58 = .ok (.if_icmp .eq (12), 3) := by decide +kernel
theorem d_M_pointer_61 : decode (rm_code mM_pointer) 61 = .ok (.aload_n 0, 1) := by decide +kernel
theorem d_M_pointer_62 : decode (rm_code mM_pointer) 62 = .ok (.bipush (70), 2) := by decide +kernel
theorem d_M_pointer_64 : decode (rm_code mM_pointer) 64 = .ok (.iconst 0, 1) := by decide +kernel
theorem d_M_pointer_65 : decode (rm_code mM_pointer) 65 = .ok (.iconst 0, 1) := by decide +kernel
theorem d_M_pointer_66 : decode (rm_code mM_pointer) 66 = .ok (.invokevirtual 113, 3) := by decide +kernel
theorem d_M_pointer_69 : decode (rm_code mM_pointer) 69 = .ok (.ireturn, 1) := by decide +kernel
theorem d_M_pointer_70 : decode (rm_code mM_pointer) 70 = .ok (.aload_n 0, 1) := by decide +kernel
theorem d_M_pointer_71 : decode (rm_code mM_pointer) 71 = .ok (.getfield 287, 3) := by decide +kernel
theorem d_M_pointer_74 : decode (rm_code mM_pointer) 74 = .ok (.iload_n 2, 1) := by decide +kernel
theorem d_M_pointer_75 : decode (rm_code mM_pointer) 75 = .ok (.iload_n 3, 1) := by decide +kernel
theorem d_M_pointer_76 : decode (rm_code mM_pointer) 76 = .ok (.bipush (63), 2) := by decide +kernel
theorem d_M_pointer_78 : decode (rm_code mM_pointer) 78 = .ok (.iand, 1) := by decide +kernel
theorem d_M_pointer_79 : decode (rm_code mM_pointer) 79 = .ok (.iastore, 1) := by decide +kernel
theorem d_M_pointer_80 : decode (rm_code mM_pointer) 80 = .ok (.iconst 0, 1) := by decide +kernel
theorem d_M_pointer_81 : decode (rm_code mM_pointer) 81 = .ok (.ireturn, 1) := by decide +kernel
theorem p_M_pointer_0 {S : rz_S} {K : Int32 → rz_S → Prop} {a1 : Int32} (w : rz_ev mM_numbers [.ref 116, .int a1] S (rz_i (fun xq1 Sq1 => ((xq1 = 0 → rz_ev mM_fault [.ref 116, .int 30, .int 0, .int 0] Sq1 (rz_i (fun xq9 Sq9 => K xq9 Sq9))) ∧ (¬ xq1 = 0 → rz_ev mM_numberNext [.ref 116, .int a1] Sq1 (rz_i (fun xq3 Sq3 => rz_ev mM_numberNext [.ref 116, .int a1] Sq3 (rz_i (fun xq4 Sq4 => ((Sq4.2 116 73 = 0 → ((14 < xq3 → rz mM_pointer 61 [(0, .ref 116)] [] Sq4 (rz_i K)) ∧ (¬ 14 < xq3 → rx_in xq3 15 = true ∧ ((Sq4.1 126 xq3.toNatClampNeg = 4 → K 0 (rz_fA Sq4 128 (upd (Sq4.1 128) xq3.toNatClampNeg (xq4 &&& 63)))) ∧ (¬ Sq4.1 126 xq3.toNatClampNeg = 4 → rz mM_pointer 61 [(0, .ref 116)] [] Sq4 (rz_i K)))))) ∧ (¬ Sq4.2 116 73 = 0 → rz_ev mM_fault [.ref 116, .int 30, .int 0, .int 0] Sq4 (rz_i (fun xq8 Sq8 => K xq8 Sq8))))))))))))) : rz mM_pointer 0 [(0, .ref 116), (1, .int a1)] [] S (rz_i K) := by
  refine rz_pure (pc' := 1) d_M_pointer_0 rfl ?_
  refine rz_pure (pc' := 2) d_M_pointer_1 rfl ?_
  refine rz_callVi (t := [.int a1]) d_M_pointer_2 w_12_608 rfl rfl rfl w (fun xq1 Sq1 q1 => ?_)
  refine rz_ifne (tgt := 17) d_M_pointer_5 rfl (fun b2 => ?_) (fun b2 => ?_)
  · skip
    refine rz_pure (pc' := 18) d_M_pointer_17 rfl ?_
    refine rz_pure (pc' := 19) d_M_pointer_18 rfl ?_
    refine rz_callVi (t := [.int a1]) d_M_pointer_19 w_12_611 rfl rfl rfl (q1.2 b2) (fun xq3 Sq3 q3 => ?_)
    refine rz_pure (pc' := 23) (l' := [(2, .int xq3), (0, .ref 116), (1, .int a1)]) d_M_pointer_22 rfl ?_
    refine rz_pure (pc' := 24) d_M_pointer_23 rfl ?_
    refine rz_pure (pc' := 25) d_M_pointer_24 rfl ?_
    refine rz_callVi (t := [.int a1]) d_M_pointer_25 w_12_611 rfl rfl rfl q3 (fun xq4 Sq4 q4 => ?_)
    refine rz_pure (pc' := 29) (l' := [(3, .int xq4), (2, .int xq3), (0, .ref 116), (1, .int a1)]) d_M_pointer_28 rfl ?_
    refine rz_pure (pc' := 30) d_M_pointer_29 rfl ?_
    refine rz_getiv (v := Sq4.2 116 73) d_M_pointer_30 f_12_602 rfl rfl rfl ?_
    refine rz_ifeq (tgt := 45) d_M_pointer_33 rfl (fun b5 => ?_) (fun b5 => ?_)
    · skip
      refine rz_pure (pc' := 46) d_M_pointer_45 rfl ?_
      refine rz_bipush (v := 14) d_M_pointer_46 (by decide) ?_
      refine rz_icmpgt (tgt := 61) d_M_pointer_48 rfl (fun b6 => ?_) (fun b6 => ?_)
      · skip
        exact rz_pick (ks := [0]) (l := [(0, .ref 116)]) rfl rfl (by decide) rfl ((q4.1 b5).1 b6)
      · skip
        refine rz_pure (pc' := 52) d_M_pointer_51 rfl ?_
        refine rz_getr d_M_pointer_52 f_12_248 rfl rfl ?_
        refine rz_pure (pc' := 56) d_M_pointer_55 rfl ?_
        refine rz_ialdv (F := Sq4.1 126) (i := xq3.toNatClampNeg) d_M_pointer_56 rfl ((q4.1 b5).2 b6).1 rfl rfl ?_
        refine rz_iconst (v := 4) d_M_pointer_57 (by decide) ?_
        refine rz_icmpeq (tgt := 70) d_M_pointer_58 rfl (fun b7 => ?_) (fun b7 => ?_)
        · skip
          refine rz_pure (pc' := 71) d_M_pointer_70 rfl ?_
          refine rz_getr d_M_pointer_71 f_12_287 rfl rfl ?_
          refine rz_pure (pc' := 75) d_M_pointer_74 rfl ?_
          refine rz_pure (pc' := 76) d_M_pointer_75 rfl ?_
          refine rz_bipush (v := 63) d_M_pointer_76 (by decide) ?_
          refine rz_iand d_M_pointer_78 ?_
          refine rz_iastv (F := Sq4.1 128) (i := xq3.toNatClampNeg) d_M_pointer_79 rfl ((q4.1 b5).2 b6).1 rfl rfl ?_
          refine rz_iconst (v := 0) d_M_pointer_80 (by decide) ?_
          exact rz_ireti d_M_pointer_81 rfl rfl (((q4.1 b5).2 b6).2.1 b7)
        · skip
          exact rz_pick (ks := [0]) (l := [(0, .ref 116)]) rfl rfl (by decide) rfl (((q4.1 b5).2 b6).2.2 b7)
    · skip
      refine rz_pure (pc' := 37) d_M_pointer_36 rfl ?_
      refine rz_bipush (v := 30) d_M_pointer_37 (by decide) ?_
      refine rz_iconst (v := 0) d_M_pointer_39 (by decide) ?_
      refine rz_iconst (v := 0) d_M_pointer_40 (by decide) ?_
      refine rz_callVi (t := [.int 0, .int 0, .int 30]) d_M_pointer_41 w_12_113 rfl rfl rfl (q4.2 b5) (fun xq8 Sq8 q8 => ?_)
      exact rz_ireti d_M_pointer_44 rfl rfl q8
  · skip
    refine rz_pure (pc' := 9) d_M_pointer_8 rfl ?_
    refine rz_bipush (v := 30) d_M_pointer_9 (by decide) ?_
    refine rz_iconst (v := 0) d_M_pointer_11 (by decide) ?_
    refine rz_iconst (v := 0) d_M_pointer_12 (by decide) ?_
    refine rz_callVi (t := [.int 0, .int 0, .int 30]) d_M_pointer_13 w_12_113 rfl rfl rfl (q1.1 b2) (fun xq9 Sq9 q9 => ?_)
    exact rz_ireti d_M_pointer_16 rfl rfl q9
theorem p_M_pointer_61 {S : rz_S} {K : Int32 → rz_S → Prop} (w : rz_ev mM_fault [.ref 116, .int 70, .int 0, .int 0] S (rz_i (fun xq1 Sq1 => K xq1 Sq1))) : rz mM_pointer 61 [(0, .ref 116)] [] S (rz_i K) := by
  refine rz_pure (pc' := 62) d_M_pointer_61 rfl ?_
  refine rz_bipush (v := 70) d_M_pointer_62 (by decide) ?_
  refine rz_iconst (v := 0) d_M_pointer_64 (by decide) ?_
  refine rz_iconst (v := 0) d_M_pointer_65 (by decide) ?_
  refine rz_callVi (t := [.int 0, .int 0, .int 70]) d_M_pointer_66 w_12_113 rfl rfl rfl w (fun xq1 Sq1 q1 => ?_)
  exact rz_ireti d_M_pointer_69 rfl rfl q1
theorem d_M_allocates_0 : decode (rm_code mM_allocates) 0 = .ok (.aload_n 0, 1) := by decide +kernel
theorem d_M_allocates_1 : decode (rm_code mM_allocates) 1 = .ok (.iload_n 1, 1) := by decide +kernel
theorem d_M_allocates_2 : decode (rm_code mM_allocates) 2 = .ok (.invokevirtual 608, 3) := by decide +kernel
theorem d_M_allocates_5 : decode (rm_code mM_allocates) 5 = .ok (.ifCond .ne (12), 3) := by decide +kernel
theorem d_M_allocates_8 : decode (rm_code mM_allocates) 8 = .ok (.aload_n 0, 1) := by decide +kernel
theorem d_M_allocates_9 : decode (rm_code mM_allocates) 9 = .ok (.bipush (30), 2) := by decide +kernel
theorem d_M_allocates_11 : decode (rm_code mM_allocates) 11 = .ok (.iconst 0, 1) := by decide +kernel
theorem d_M_allocates_12 : decode (rm_code mM_allocates) 12 = .ok (.iconst 0, 1) := by decide +kernel
theorem d_M_allocates_13 : decode (rm_code mM_allocates) 13 = .ok (.invokevirtual 113, 3) := by decide +kernel
theorem d_M_allocates_16 : decode (rm_code mM_allocates) 16 = .ok (.ireturn, 1) := by decide +kernel
theorem d_M_allocates_17 : decode (rm_code mM_allocates) 17 = .ok (.aload_n 0, 1) := by decide +kernel
theorem d_M_allocates_18 : decode (rm_code mM_allocates) 18 = .ok (.iload_n 1, 1) := by decide +kernel
theorem d_M_allocates_19 : decode (rm_code mM_allocates) 19 = .ok (.invokevirtual 611, 3) := by decide +kernel
theorem d_M_allocates_22 : decode (rm_code mM_allocates) 22 = .ok (.istore_n 2, 1) := by decide +kernel
theorem d_M_allocates_23 : decode (rm_code mM_allocates) 23 = .ok (.aload_n 0, 1) := by decide +kernel
theorem d_M_allocates_24 : decode (rm_code mM_allocates) 24 = .ok (.iload_n 1, 1) := by decide +kernel
theorem d_M_allocates_25 : decode (rm_code mM_allocates) 25 = .ok (.invokevirtual 611, 3) := by decide +kernel
theorem d_M_allocates_28 : decode (rm_code mM_allocates) 28 = .ok (.istore_n 3, 1) := by decide +kernel
theorem d_M_allocates_29 : decode (rm_code mM_allocates) 29 = .ok (.aload_n 0, 1) := by decide +kernel
theorem d_M_allocates_30 : decode (rm_code mM_allocates) 30 = .ok (.getfield 602, 3) := by decide +kernel
theorem d_M_allocates_33 : decode (rm_code mM_allocates) 33 = .ok (.ifCond .eq (12), 3) := by decide +kernel
theorem d_M_allocates_36 : decode (rm_code mM_allocates) 36 = .ok (.aload_n 0, 1) := by decide +kernel
theorem d_M_allocates_37 : decode (rm_code mM_allocates) 37 = .ok (.bipush (30), 2) := by decide +kernel
theorem d_M_allocates_39 : decode (rm_code mM_allocates) 39 = .ok (.iconst 0, 1) := by decide +kernel
theorem d_M_allocates_40 : decode (rm_code mM_allocates) 40 = .ok (.iconst 0, 1) := by decide +kernel
theorem d_M_allocates_41 : decode (rm_code mM_allocates) 41 = .ok (.invokevirtual 113, 3) := by decide +kernel
theorem d_M_allocates_44 : decode (rm_code mM_allocates) 44 = .ok (.ireturn, 1) := by decide +kernel
theorem d_M_allocates_45 : decode (rm_code mM_allocates) 45 = .ok (.iload_n 2, 1) := by decide +kernel
theorem d_M_allocates_46 : decode (rm_code mM_allocates) 46 = .ok (.iload_n 3, 1) := by decide +kernel
theorem d_M_allocates_47 : decode (rm_code mM_allocates) 47 = .ok (.invokestatic 161, 3) := by decide +kernel
theorem d_M_allocates_50 : decode (rm_code mM_allocates) 50 = .ok (.ifCond .ne (12), 3) := by decide +kernel
theorem d_M_allocates_53 : decode (rm_code mM_allocates) 53 = .ok (.aload_n 0, 1) := by decide +kernel
theorem d_M_allocates_54 : decode (rm_code mM_allocates) 54 = .ok (.bipush (66), 2) := by decide +kernel
theorem d_M_allocates_56 : decode (rm_code mM_allocates) 56 = .ok (.iload_n 2, 1) := by decide +kernel
theorem d_M_allocates_57 : decode (rm_code mM_allocates) 57 = .ok (.iload_n 3, 1) := by decide +kernel
theorem d_M_allocates_58 : decode (rm_code mM_allocates) 58 = .ok (.invokevirtual 113, 3) := by decide +kernel
theorem d_M_allocates_61 : decode (rm_code mM_allocates) 61 = .ok (.ireturn, 1) := by decide +kernel
theorem d_M_allocates_62 : decode (rm_code mM_allocates) 62 = .ok (.aload_n 0, 1) := by decide +kernel
theorem d_M_allocates_63 : decode (rm_code mM_allocates) 63 = .ok (.invokevirtual 180, 3) := by decide +kernel
theorem d_M_allocates_66 : decode (rm_code mM_allocates) 66 = .ok (.istore 4, 2) := by decide +kernel
theorem d_M_allocates_68 : decode (rm_code mM_allocates) 68 = .ok (.iload 4, 2) := by decide +kernel
theorem d_M_allocates_70 : decode (rm_code mM_allocates) 70 = .ok (.ifCond .eq (6), 3) := by decide +kernel
theorem d_M_allocates_73 : decode (rm_code mM_allocates) 73 = .ok (.iload 4, 2) := by decide +kernel
theorem d_M_allocates_75 : decode (rm_code mM_allocates) 75 = .ok (.ireturn, 1) := by decide +kernel
theorem d_M_allocates_76 : decode (rm_code mM_allocates) 76 = .ok (.aload_n 0, 1) := by decide +kernel
theorem d_M_allocates_77 : decode (rm_code mM_allocates) 77 = .ok (.iload_n 2, 1) := by decide +kernel
theorem d_M_allocates_78 : decode (rm_code mM_allocates) 78 = .ok (.iload_n 3, 1) := by decide +kernel
theorem d_M_allocates_79 : decode (rm_code mM_allocates) 79 = .ok (.invokevirtual 165, 3) := by decide +kernel
theorem d_M_allocates_82 : decode (rm_code mM_allocates) 82 = .ok (.ifCond .eq (14), 3) := by decide +kernel
theorem d_M_allocates_85 : decode (rm_code mM_allocates) 85 = .ok (.aload_n 0, 1) := by decide +kernel
theorem d_M_allocates_86 : decode (rm_code mM_allocates) 86 = .ok (.iload_n 2, 1) := by decide +kernel
theorem d_M_allocates_87 : decode (rm_code mM_allocates) 87 = .ok (.iload_n 3, 1) := by decide +kernel
theorem d_M_allocates_88 : decode (rm_code mM_allocates) 88 = .ok (.invokevirtual 174, 3) := by decide +kernel
theorem d_M_allocates_91 : decode (rm_code mM_allocates) 91 = .ok (.aload_n 0, 1) := by decide +kernel
theorem d_M_allocates_92 : decode (rm_code mM_allocates) 92 = .ok (.invokevirtual 189, 3) := by decide +kernel
theorem d_M_allocates_95 : decode (rm_code mM_allocates) 95 = .ok (.ireturn, 1) := by decide +kernel
theorem d_M_allocates_96 : decode (rm_code mM_allocates) 96 = .ok (.iload_n 2, 1) := by decide +kernel
theorem d_M_allocates_97 : decode (rm_code mM_allocates) 97 = .ok (.istore 5, 2) := by decide +kernel
theorem d_M_allocates_99 : decode (rm_code mM_allocates) 99 = .ok (.iload_n 3, 1) := by decide +kernel
theorem d_M_allocates_100 : decode (rm_code mM_allocates) 100 = .ok (.iconst 1, 1) := by decide +kernel
theorem d_M_allocates_101 : decode (rm_code mM_allocates) 101 = .ok (.iadd, 1) := by decide +kernel
theorem d_M_allocates_102 : decode (rm_code mM_allocates) 102 = .ok (.istore 6, 2) := by decide +kernel
theorem d_M_allocates_104 : decode (rm_code mM_allocates) 104 = .ok (.iload 5, 2) := by decide +kernel
theorem d_M_allocates_106 : decode (rm_code mM_allocates) 106 = .ok (.bipush (12), 2) := by decide +kernel
theorem d_M_allocates_108 : decode (rm_code mM_allocates) 108 = .ok (.if_icmp .gt (56), 3) := by decide +kernel
theorem d_M_allocates_111 : decode (rm_code mM_allocates) 111 = .ok (.iload 6, 2) := by decide +kernel
theorem d_M_allocates_113 : decode (rm_code mM_allocates) 113 = .ok (.iload 5, 2) := by decide +kernel
theorem d_M_allocates_115 : decode (rm_code mM_allocates) 115 = .ok (.invokestatic 1, 3) := by decide +kernel
theorem d_M_allocates_118 : decode (rm_code mM_allocates) 118 = .ok (.if_icmp .ge (34), 3) := by decide +kernel
theorem d_M_allocates_121 : decode (rm_code mM_allocates) 121 = .ok (.aload_n 0, 1) := by decide +kernel
theorem d_M_allocates_122 : decode (rm_code mM_allocates) 122 = .ok (.iload 5, 2) := by decide +kernel
theorem d_M_allocates_124 : decode (rm_code mM_allocates) 124 = .ok (.iload 6, 2) := by decide +kernel
theorem d_M_allocates_126 : decode (rm_code mM_allocates) 126 = .ok (.invokevirtual 165, 3) := by decide +kernel
theorem d_M_allocates_129 : decode (rm_code mM_allocates) 129 = .ok (.ifCond .eq (14), 3) := by decide +kernel
theorem d_M_allocates_132 : decode (rm_code mM_allocates) 132 = .ok (.aload_n 0, 1) := by decide +kernel
theorem d_M_allocates_133 : decode (rm_code mM_allocates) 133 = .ok (.bipush (65), 2) := by decide +kernel
theorem d_M_allocates_135 : decode (rm_code mM_allocates) 135 = .ok (.iload 5, 2) := by decide +kernel
theorem d_M_allocates_137 : decode (rm_code mM_allocates) 137 = .ok (.iload 6, 2) := by decide +kernel
theorem d_M_allocates_139 : decode (rm_code mM_allocates) 139 = .ok (.invokevirtual 113, 3) := by decide +kernel
theorem d_M_allocates_142 : decode (rm_code mM_allocates) 142 = .ok (.ireturn, 1) := by decide +kernel
theorem d_M_allocates_143 : decode (rm_code mM_allocates) 143 = .ok (.iload 6, 2) := by decide +kernel
theorem d_M_allocates_145 : decode (rm_code mM_allocates) 145 = .ok (.iconst 1, 1) := by decide +kernel
theorem d_M_allocates_146 : decode (rm_code mM_allocates) 146 = .ok (.iadd, 1) := by decide +kernel
theorem d_M_allocates_147 : decode (rm_code mM_allocates) 147 = .ok (.istore 6, 2) := by decide +kernel
theorem d_M_allocates_149 : decode (rm_code mM_allocates) 149 = .ok (.goto (-45), 3) := by decide +kernel
theorem d_M_allocates_152 : decode (rm_code mM_allocates) 152 = .ok (.iload 5, 2) := by decide +kernel
theorem d_M_allocates_154 : decode (rm_code mM_allocates) 154 = .ok (.iconst 1, 1) := by decide +kernel
theorem d_M_allocates_155 : decode (rm_code mM_allocates) 155 = .ok (.iadd, 1) := by decide +kernel
theorem d_M_allocates_156 : decode (rm_code mM_allocates) 156 = .ok (.istore 5, 2) := by decide +kernel
theorem d_M_allocates_158 : decode (rm_code mM_allocates) 158 = .ok (.iconst 0, 1) := by decide +kernel
theorem d_M_allocates_159 : decode (rm_code mM_allocates) 159 = .ok (.istore 6, 2) := by decide +kernel
theorem d_M_allocates_161 : decode (rm_code mM_allocates) 161 = .ok (.goto (-57), 3) := by decide +kernel
theorem d_M_allocates_164 : decode (rm_code mM_allocates) 164 = .ok (.aload_n 0, 1) := by decide +kernel
theorem d_M_allocates_165 : decode (rm_code mM_allocates) 165 = .ok (.bipush (65), 2) := by decide +kernel
theorem d_M_allocates_167 : decode (rm_code mM_allocates) 167 = .ok (.iconst 0, 1) := by decide +kernel
theorem d_M_allocates_168 : decode (rm_code mM_allocates) 168 = .ok (.iconst 0, 1) := by decide +kernel
theorem d_M_allocates_169 : decode (rm_code mM_allocates) 169 = .ok (.invokevirtual 113, 3) := by decide +kernel
theorem d_M_allocates_172 : decode (rm_code mM_allocates) 172 = .ok (.ireturn, 1) := by decide +kernel
theorem p_M_allocates_0 {S : rz_S} {K : Int32 → rz_S → Prop} {a1 : Int32} (w : rz_ev mM_numbers [.ref 116, .int a1] S (rz_i (fun xq1 Sq1 => ((xq1 = 0 → rz_ev mM_fault [.ref 116, .int 30, .int 0, .int 0] Sq1 (rz_i (fun xq16 Sq16 => K xq16 Sq16))) ∧ (¬ xq1 = 0 → rz_ev mM_numberNext [.ref 116, .int a1] Sq1 (rz_i (fun xq3 Sq3 => rz_ev mM_numberNext [.ref 116, .int a1] Sq3 (rz_i (fun xq4 Sq4 => ((Sq4.2 116 73 = 0 → rz_ev mM_isLegal [.int xq3, .int xq4] Sq4 (rz_i (fun xq6 Sq6 => ((xq6 = 0 → rz_ev mM_fault [.ref 116, .int 66, .int xq3, .int xq4] Sq6 (rz_i (fun xq14 Sq14 => K xq14 Sq14))) ∧ (¬ xq6 = 0 → rz_ev mM_loads [.ref 116] Sq6 (rz_i (fun xq8 Sq8 => ((xq8 = 0 → rz_ev mM_isFree [.ref 116, .int xq3, .int xq4] Sq8 (rz_i (fun xq10 Sq10 => ((xq10 = 0 → rz mM_allocates 104 [(0, .ref 116), (5, .int xq3), (6, .int (xq4 + 1))] [] Sq10 (rz_i K)) ∧ (¬ xq10 = 0 → rz_ev mM_takes [.ref 116, .int xq3, .int xq4] Sq10 (rz_v (fun Sq12 => rz_ev mM_stores [.ref 116] Sq12 (rz_i (fun xq13 Sq13 => K xq13 Sq13))))))))) ∧ (¬ xq8 = 0 → K xq8 Sq8))))))))) ∧ (¬ Sq4.2 116 73 = 0 → rz_ev mM_fault [.ref 116, .int 30, .int 0, .int 0] Sq4 (rz_i (fun xq15 Sq15 => K xq15 Sq15))))))))))))) : rz mM_allocates 0 [(0, .ref 116), (1, .int a1)] [] S (rz_i K) := by
  refine rz_pure (pc' := 1) d_M_allocates_0 rfl ?_
  refine rz_pure (pc' := 2) d_M_allocates_1 rfl ?_
  refine rz_callVi (t := [.int a1]) d_M_allocates_2 w_12_608 rfl rfl rfl w (fun xq1 Sq1 q1 => ?_)
  refine rz_ifne (tgt := 17) d_M_allocates_5 rfl (fun b2 => ?_) (fun b2 => ?_)
  · skip
    refine rz_pure (pc' := 18) d_M_allocates_17 rfl ?_
    refine rz_pure (pc' := 19) d_M_allocates_18 rfl ?_
    refine rz_callVi (t := [.int a1]) d_M_allocates_19 w_12_611 rfl rfl rfl (q1.2 b2) (fun xq3 Sq3 q3 => ?_)
    refine rz_pure (pc' := 23) (l' := [(2, .int xq3), (0, .ref 116), (1, .int a1)]) d_M_allocates_22 rfl ?_
    refine rz_pure (pc' := 24) d_M_allocates_23 rfl ?_
    refine rz_pure (pc' := 25) d_M_allocates_24 rfl ?_
    refine rz_callVi (t := [.int a1]) d_M_allocates_25 w_12_611 rfl rfl rfl q3 (fun xq4 Sq4 q4 => ?_)
    refine rz_pure (pc' := 29) (l' := [(3, .int xq4), (2, .int xq3), (0, .ref 116), (1, .int a1)]) d_M_allocates_28 rfl ?_
    refine rz_pure (pc' := 30) d_M_allocates_29 rfl ?_
    refine rz_getiv (v := Sq4.2 116 73) d_M_allocates_30 f_12_602 rfl rfl rfl ?_
    refine rz_ifeq (tgt := 45) d_M_allocates_33 rfl (fun b5 => ?_) (fun b5 => ?_)
    · skip
      refine rz_pure (pc' := 46) d_M_allocates_45 rfl ?_
      refine rz_pure (pc' := 47) d_M_allocates_46 rfl ?_
      refine rz_callSi (t := [.int xq4, .int xq3]) d_M_allocates_47 rfl w_12_161 rfl rfl (q4.1 b5) (fun xq6 Sq6 q6 => ?_)
      refine rz_ifne (tgt := 62) d_M_allocates_50 rfl (fun b7 => ?_) (fun b7 => ?_)
      · skip
        refine rz_pure (pc' := 63) d_M_allocates_62 rfl ?_
        refine rz_callVi (t := []) d_M_allocates_63 w_12_180 rfl rfl rfl (q6.2 b7) (fun xq8 Sq8 q8 => ?_)
        refine rz_pure (pc' := 68) (l' := [(4, .int xq8), (3, .int xq4), (2, .int xq3), (0, .ref 116), (1, .int a1)]) d_M_allocates_66 rfl ?_
        refine rz_pure (pc' := 70) d_M_allocates_68 rfl ?_
        refine rz_ifeq (tgt := 76) d_M_allocates_70 rfl (fun b9 => ?_) (fun b9 => ?_)
        · skip
          refine rz_pure (pc' := 77) d_M_allocates_76 rfl ?_
          refine rz_pure (pc' := 78) d_M_allocates_77 rfl ?_
          refine rz_pure (pc' := 79) d_M_allocates_78 rfl ?_
          refine rz_callVi (t := [.int xq4, .int xq3]) d_M_allocates_79 w_12_165 rfl rfl rfl (q8.1 b9) (fun xq10 Sq10 q10 => ?_)
          refine rz_ifeq (tgt := 96) d_M_allocates_82 rfl (fun b11 => ?_) (fun b11 => ?_)
          · skip
            refine rz_pure (pc' := 97) d_M_allocates_96 rfl ?_
            refine rz_pure (pc' := 99) (l' := [(5, .int xq3), (4, .int xq8), (3, .int xq4), (2, .int xq3), (0, .ref 116), (1, .int a1)]) d_M_allocates_97 rfl ?_
            refine rz_pure (pc' := 100) d_M_allocates_99 rfl ?_
            refine rz_iconst (v := 1) d_M_allocates_100 (by decide) ?_
            refine rz_iadd d_M_allocates_101 ?_
            refine rz_pure (pc' := 104) (l' := [(6, .int (xq4 + 1)), (5, .int xq3), (4, .int xq8), (3, .int xq4), (2, .int xq3), (0, .ref 116), (1, .int a1)]) d_M_allocates_102 rfl ?_
            exact rz_pick (ks := [0, 5, 6]) (l := [(0, .ref 116), (5, .int xq3), (6, .int (xq4 + 1))]) rfl rfl (by decide) rfl (q10.1 b11)
          · skip
            refine rz_pure (pc' := 86) d_M_allocates_85 rfl ?_
            refine rz_pure (pc' := 87) d_M_allocates_86 rfl ?_
            refine rz_pure (pc' := 88) d_M_allocates_87 rfl ?_
            refine rz_callVv (t := [.int xq4, .int xq3]) d_M_allocates_88 w_12_174 rfl rfl rfl (q10.2 b11) (fun Sq12 q12 => ?_)
            refine rz_pure (pc' := 92) d_M_allocates_91 rfl ?_
            refine rz_callVi (t := []) d_M_allocates_92 w_12_189 rfl rfl rfl q12 (fun xq13 Sq13 q13 => ?_)
            exact rz_ireti d_M_allocates_95 rfl rfl q13
        · skip
          refine rz_pure (pc' := 75) d_M_allocates_73 rfl ?_
          exact rz_ireti d_M_allocates_75 rfl rfl (q8.2 b9)
      · skip
        refine rz_pure (pc' := 54) d_M_allocates_53 rfl ?_
        refine rz_bipush (v := 66) d_M_allocates_54 (by decide) ?_
        refine rz_pure (pc' := 57) d_M_allocates_56 rfl ?_
        refine rz_pure (pc' := 58) d_M_allocates_57 rfl ?_
        refine rz_callVi (t := [.int xq4, .int xq3, .int 66]) d_M_allocates_58 w_12_113 rfl rfl rfl (q6.1 b7) (fun xq14 Sq14 q14 => ?_)
        exact rz_ireti d_M_allocates_61 rfl rfl q14
    · skip
      refine rz_pure (pc' := 37) d_M_allocates_36 rfl ?_
      refine rz_bipush (v := 30) d_M_allocates_37 (by decide) ?_
      refine rz_iconst (v := 0) d_M_allocates_39 (by decide) ?_
      refine rz_iconst (v := 0) d_M_allocates_40 (by decide) ?_
      refine rz_callVi (t := [.int 0, .int 0, .int 30]) d_M_allocates_41 w_12_113 rfl rfl rfl (q4.2 b5) (fun xq15 Sq15 q15 => ?_)
      exact rz_ireti d_M_allocates_44 rfl rfl q15
  · skip
    refine rz_pure (pc' := 9) d_M_allocates_8 rfl ?_
    refine rz_bipush (v := 30) d_M_allocates_9 (by decide) ?_
    refine rz_iconst (v := 0) d_M_allocates_11 (by decide) ?_
    refine rz_iconst (v := 0) d_M_allocates_12 (by decide) ?_
    refine rz_callVi (t := [.int 0, .int 0, .int 30]) d_M_allocates_13 w_12_113 rfl rfl rfl (q1.1 b2) (fun xq16 Sq16 q16 => ?_)
    exact rz_ireti d_M_allocates_16 rfl rfl q16
theorem p_M_allocates_104 {S : rz_S} {K : Int32 → rz_S → Prop} {a5 : Int32} {a6 : Int32} (w : ((12 < a5 → rz_ev mM_fault [.ref 116, .int 65, .int 0, .int 0] S (rz_i (fun xq2 Sq2 => K xq2 Sq2))) ∧ (¬ 12 < a5 → rz_ev mM_sectorsOf [.int a5] S (rz_i (fun xq3 Sq3 => ((xq3 ≤ a6 → rz mM_allocates 104 [(0, .ref 116), (5, .int (a5 + 1)), (6, .int 0)] [] Sq3 (rz_i K)) ∧ (¬ xq3 ≤ a6 → rz_ev mM_isFree [.ref 116, .int a5, .int a6] Sq3 (rz_i (fun xq5 Sq5 => ((xq5 = 0 → rz mM_allocates 104 [(0, .ref 116), (5, .int a5), (6, .int (a6 + 1))] [] Sq5 (rz_i K)) ∧ (¬ xq5 = 0 → rz_ev mM_fault [.ref 116, .int 65, .int a5, .int a6] Sq5 (rz_i (fun xq7 Sq7 => K xq7 Sq7))))))))))))) : rz mM_allocates 104 [(0, .ref 116), (5, .int a5), (6, .int a6)] [] S (rz_i K) := by
  refine rz_pure (pc' := 106) d_M_allocates_104 rfl ?_
  refine rz_bipush (v := 12) d_M_allocates_106 (by decide) ?_
  refine rz_icmpgt (tgt := 164) d_M_allocates_108 rfl (fun b1 => ?_) (fun b1 => ?_)
  · skip
    refine rz_pure (pc' := 165) d_M_allocates_164 rfl ?_
    refine rz_bipush (v := 65) d_M_allocates_165 (by decide) ?_
    refine rz_iconst (v := 0) d_M_allocates_167 (by decide) ?_
    refine rz_iconst (v := 0) d_M_allocates_168 (by decide) ?_
    refine rz_callVi (t := [.int 0, .int 0, .int 65]) d_M_allocates_169 w_12_113 rfl rfl rfl (w.1 b1) (fun xq2 Sq2 q2 => ?_)
    exact rz_ireti d_M_allocates_172 rfl rfl q2
  · skip
    refine rz_pure (pc' := 113) d_M_allocates_111 rfl ?_
    refine rz_pure (pc' := 115) d_M_allocates_113 rfl ?_
    refine rz_callSi (t := [.int a5]) d_M_allocates_115 rfl w_12_1 rfl rfl (w.2 b1) (fun xq3 Sq3 q3 => ?_)
    refine rz_icmpge (tgt := 152) d_M_allocates_118 rfl (fun b4 => ?_) (fun b4 => ?_)
    · skip
      refine rz_pure (pc' := 154) d_M_allocates_152 rfl ?_
      refine rz_iconst (v := 1) d_M_allocates_154 (by decide) ?_
      refine rz_iadd d_M_allocates_155 ?_
      refine rz_pure (pc' := 158) (l' := [(5, .int (a5 + 1)), (0, .ref 116), (6, .int a6)]) d_M_allocates_156 rfl ?_
      refine rz_iconst (v := 0) d_M_allocates_158 (by decide) ?_
      refine rz_pure (pc' := 161) (l' := [(6, .int 0), (5, .int (a5 + 1)), (0, .ref 116)]) d_M_allocates_159 rfl ?_
      refine rz_pure (pc' := 104) d_M_allocates_161 rfl ?_
      exact rz_pick (ks := [0, 5, 6]) (l := [(0, .ref 116), (5, .int (a5 + 1)), (6, .int 0)]) rfl rfl (by decide) rfl (q3.1 b4)
    · skip
      refine rz_pure (pc' := 122) d_M_allocates_121 rfl ?_
      refine rz_pure (pc' := 124) d_M_allocates_122 rfl ?_
      refine rz_pure (pc' := 126) d_M_allocates_124 rfl ?_
      refine rz_callVi (t := [.int a6, .int a5]) d_M_allocates_126 w_12_165 rfl rfl rfl (q3.2 b4) (fun xq5 Sq5 q5 => ?_)
      refine rz_ifeq (tgt := 143) d_M_allocates_129 rfl (fun b6 => ?_) (fun b6 => ?_)
      · skip
        refine rz_pure (pc' := 145) d_M_allocates_143 rfl ?_
        refine rz_iconst (v := 1) d_M_allocates_145 (by decide) ?_
        refine rz_iadd d_M_allocates_146 ?_
        refine rz_pure (pc' := 149) (l' := [(6, .int (a6 + 1)), (0, .ref 116), (5, .int a5)]) d_M_allocates_147 rfl ?_
        refine rz_pure (pc' := 104) d_M_allocates_149 rfl ?_
        exact rz_pick (ks := [0, 5, 6]) (l := [(0, .ref 116), (5, .int a5), (6, .int (a6 + 1))]) rfl rfl (by decide) rfl (q5.1 b6)
      · skip
        refine rz_pure (pc' := 133) d_M_allocates_132 rfl ?_
        refine rz_bipush (v := 65) d_M_allocates_133 (by decide) ?_
        refine rz_pure (pc' := 137) d_M_allocates_135 rfl ?_
        refine rz_pure (pc' := 139) d_M_allocates_137 rfl ?_
        refine rz_callVi (t := [.int a6, .int a5, .int 65]) d_M_allocates_139 w_12_113 rfl rfl rfl (q5.2 b6) (fun xq7 Sq7 q7 => ?_)
        exact rz_ireti d_M_allocates_142 rfl rfl q7
theorem d_M_frees_0 : decode (rm_code mM_frees) 0 = .ok (.aload_n 0, 1) := by decide +kernel
theorem d_M_frees_1 : decode (rm_code mM_frees) 1 = .ok (.iload_n 1, 1) := by decide +kernel
theorem d_M_frees_2 : decode (rm_code mM_frees) 2 = .ok (.invokevirtual 608, 3) := by decide +kernel
theorem d_M_frees_5 : decode (rm_code mM_frees) 5 = .ok (.ifCond .ne (12), 3) := by decide +kernel
theorem d_M_frees_8 : decode (rm_code mM_frees) 8 = .ok (.aload_n 0, 1) := by decide +kernel
theorem d_M_frees_9 : decode (rm_code mM_frees) 9 = .ok (.bipush (30), 2) := by decide +kernel
theorem d_M_frees_11 : decode (rm_code mM_frees) 11 = .ok (.iconst 0, 1) := by decide +kernel
theorem d_M_frees_12 : decode (rm_code mM_frees) 12 = .ok (.iconst 0, 1) := by decide +kernel
theorem d_M_frees_13 : decode (rm_code mM_frees) 13 = .ok (.invokevirtual 113, 3) := by decide +kernel
theorem d_M_frees_16 : decode (rm_code mM_frees) 16 = .ok (.ireturn, 1) := by decide +kernel
theorem d_M_frees_17 : decode (rm_code mM_frees) 17 = .ok (.aload_n 0, 1) := by decide +kernel
theorem d_M_frees_18 : decode (rm_code mM_frees) 18 = .ok (.iload_n 1, 1) := by decide +kernel
theorem d_M_frees_19 : decode (rm_code mM_frees) 19 = .ok (.invokevirtual 611, 3) := by decide +kernel
theorem d_M_frees_22 : decode (rm_code mM_frees) 22 = .ok (.istore_n 2, 1) := by decide +kernel
theorem d_M_frees_23 : decode (rm_code mM_frees) 23 = .ok (.aload_n 0, 1) := by decide +kernel
theorem d_M_frees_24 : decode (rm_code mM_frees) 24 = .ok (.iload_n 1, 1) := by decide +kernel
theorem d_M_frees_25 : decode (rm_code mM_frees) 25 = .ok (.invokevirtual 611, 3) := by decide +kernel
theorem d_M_frees_28 : decode (rm_code mM_frees) 28 = .ok (.istore_n 3, 1) := by decide +kernel
theorem d_M_frees_29 : decode (rm_code mM_frees) 29 = .ok (.aload_n 0, 1) := by decide +kernel
theorem d_M_frees_30 : decode (rm_code mM_frees) 30 = .ok (.getfield 602, 3) := by decide +kernel
theorem d_M_frees_33 : decode (rm_code mM_frees) 33 = .ok (.ifCond .eq (12), 3) := by decide +kernel
theorem d_M_frees_36 : decode (rm_code mM_frees) 36 = .ok (.aload_n 0, 1) := by decide +kernel
theorem d_M_frees_37 : decode (rm_code mM_frees) 37 = .ok (.bipush (30), 2) := by decide +kernel
theorem d_M_frees_39 : decode (rm_code mM_frees) 39 = .ok (.iconst 0, 1) := by decide +kernel
theorem d_M_frees_40 : decode (rm_code mM_frees) 40 = .ok (.iconst 0, 1) := by decide +kernel
theorem d_M_frees_41 : decode (rm_code mM_frees) 41 = .ok (.invokevirtual 113, 3) := by decide +kernel
theorem d_M_frees_44 : decode (rm_code mM_frees) 44 = .ok (.ireturn, 1) := by decide +kernel
theorem d_M_frees_45 : decode (rm_code mM_frees) 45 = .ok (.iload_n 2, 1) := by decide +kernel
theorem d_M_frees_46 : decode (rm_code mM_frees) 46 = .ok (.iload_n 3, 1) := by decide +kernel
theorem d_M_frees_47 : decode (rm_code mM_frees) 47 = .ok (.invokestatic 161, 3) := by decide +kernel
theorem d_M_frees_50 : decode (rm_code mM_frees) 50 = .ok (.ifCond .ne (12), 3) := by decide +kernel
theorem d_M_frees_53 : decode (rm_code mM_frees) 53 = .ok (.aload_n 0, 1) := by decide +kernel
theorem d_M_frees_54 : decode (rm_code mM_frees) 54 = .ok (.bipush (66), 2) := by decide +kernel
theorem d_M_frees_56 : decode (rm_code mM_frees) 56 = .ok (.iload_n 2, 1) := by decide +kernel
theorem d_M_frees_57 : decode (rm_code mM_frees) 57 = .ok (.iload_n 3, 1) := by decide +kernel
theorem d_M_frees_58 : decode (rm_code mM_frees) 58 = .ok (.invokevirtual 113, 3) := by decide +kernel
theorem d_M_frees_61 : decode (rm_code mM_frees) 61 = .ok (.ireturn, 1) := by decide +kernel
theorem d_M_frees_62 : decode (rm_code mM_frees) 62 = .ok (.aload_n 0, 1) := by decide +kernel
theorem d_M_frees_63 : decode (rm_code mM_frees) 63 = .ok (.invokevirtual 180, 3) := by decide +kernel
theorem d_M_frees_66 : decode (rm_code mM_frees) 66 = .ok (.istore 4, 2) := by decide +kernel
theorem d_M_frees_68 : decode (rm_code mM_frees) 68 = .ok (.iload 4, 2) := by decide +kernel
theorem d_M_frees_70 : decode (rm_code mM_frees) 70 = .ok (.ifCond .eq (6), 3) := by decide +kernel
theorem d_M_frees_73 : decode (rm_code mM_frees) 73 = .ok (.iload 4, 2) := by decide +kernel
theorem d_M_frees_75 : decode (rm_code mM_frees) 75 = .ok (.ireturn, 1) := by decide +kernel
theorem d_M_frees_76 : decode (rm_code mM_frees) 76 = .ok (.aload_n 0, 1) := by decide +kernel
theorem d_M_frees_77 : decode (rm_code mM_frees) 77 = .ok (.iload_n 2, 1) := by decide +kernel
theorem d_M_frees_78 : decode (rm_code mM_frees) 78 = .ok (.iload_n 3, 1) := by decide +kernel
theorem d_M_frees_79 : decode (rm_code mM_frees) 79 = .ok (.invokevirtual 183, 3) := by decide +kernel
theorem d_M_frees_82 : decode (rm_code mM_frees) 82 = .ok (.aload_n 0, 1) := by decide +kernel
theorem d_M_frees_83 : decode (rm_code mM_frees) 83 = .ok (.invokevirtual 189, 3) := by decide +kernel
theorem d_M_frees_86 : decode (rm_code mM_frees) 86 = .ok (.ireturn, 1) := by decide +kernel
theorem p_M_frees_0 {S : rz_S} {K : Int32 → rz_S → Prop} {a1 : Int32} (w : rz_ev mM_numbers [.ref 116, .int a1] S (rz_i (fun xq1 Sq1 => ((xq1 = 0 → rz_ev mM_fault [.ref 116, .int 30, .int 0, .int 0] Sq1 (rz_i (fun xq14 Sq14 => K xq14 Sq14))) ∧ (¬ xq1 = 0 → rz_ev mM_numberNext [.ref 116, .int a1] Sq1 (rz_i (fun xq3 Sq3 => rz_ev mM_numberNext [.ref 116, .int a1] Sq3 (rz_i (fun xq4 Sq4 => ((Sq4.2 116 73 = 0 → rz_ev mM_isLegal [.int xq3, .int xq4] Sq4 (rz_i (fun xq6 Sq6 => ((xq6 = 0 → rz_ev mM_fault [.ref 116, .int 66, .int xq3, .int xq4] Sq6 (rz_i (fun xq12 Sq12 => K xq12 Sq12))) ∧ (¬ xq6 = 0 → rz_ev mM_loads [.ref 116] Sq6 (rz_i (fun xq8 Sq8 => ((xq8 = 0 → rz_ev mM_givesBack [.ref 116, .int xq3, .int xq4] Sq8 (rz_v (fun Sq10 => rz_ev mM_stores [.ref 116] Sq10 (rz_i (fun xq11 Sq11 => K xq11 Sq11))))) ∧ (¬ xq8 = 0 → K xq8 Sq8))))))))) ∧ (¬ Sq4.2 116 73 = 0 → rz_ev mM_fault [.ref 116, .int 30, .int 0, .int 0] Sq4 (rz_i (fun xq13 Sq13 => K xq13 Sq13))))))))))))) : rz mM_frees 0 [(0, .ref 116), (1, .int a1)] [] S (rz_i K) := by
  refine rz_pure (pc' := 1) d_M_frees_0 rfl ?_
  refine rz_pure (pc' := 2) d_M_frees_1 rfl ?_
  refine rz_callVi (t := [.int a1]) d_M_frees_2 w_12_608 rfl rfl rfl w (fun xq1 Sq1 q1 => ?_)
  refine rz_ifne (tgt := 17) d_M_frees_5 rfl (fun b2 => ?_) (fun b2 => ?_)
  · skip
    refine rz_pure (pc' := 18) d_M_frees_17 rfl ?_
    refine rz_pure (pc' := 19) d_M_frees_18 rfl ?_
    refine rz_callVi (t := [.int a1]) d_M_frees_19 w_12_611 rfl rfl rfl (q1.2 b2) (fun xq3 Sq3 q3 => ?_)
    refine rz_pure (pc' := 23) (l' := [(2, .int xq3), (0, .ref 116), (1, .int a1)]) d_M_frees_22 rfl ?_
    refine rz_pure (pc' := 24) d_M_frees_23 rfl ?_
    refine rz_pure (pc' := 25) d_M_frees_24 rfl ?_
    refine rz_callVi (t := [.int a1]) d_M_frees_25 w_12_611 rfl rfl rfl q3 (fun xq4 Sq4 q4 => ?_)
    refine rz_pure (pc' := 29) (l' := [(3, .int xq4), (2, .int xq3), (0, .ref 116), (1, .int a1)]) d_M_frees_28 rfl ?_
    refine rz_pure (pc' := 30) d_M_frees_29 rfl ?_
    refine rz_getiv (v := Sq4.2 116 73) d_M_frees_30 f_12_602 rfl rfl rfl ?_
    refine rz_ifeq (tgt := 45) d_M_frees_33 rfl (fun b5 => ?_) (fun b5 => ?_)
    · skip
      refine rz_pure (pc' := 46) d_M_frees_45 rfl ?_
      refine rz_pure (pc' := 47) d_M_frees_46 rfl ?_
      refine rz_callSi (t := [.int xq4, .int xq3]) d_M_frees_47 rfl w_12_161 rfl rfl (q4.1 b5) (fun xq6 Sq6 q6 => ?_)
      refine rz_ifne (tgt := 62) d_M_frees_50 rfl (fun b7 => ?_) (fun b7 => ?_)
      · skip
        refine rz_pure (pc' := 63) d_M_frees_62 rfl ?_
        refine rz_callVi (t := []) d_M_frees_63 w_12_180 rfl rfl rfl (q6.2 b7) (fun xq8 Sq8 q8 => ?_)
        refine rz_pure (pc' := 68) (l' := [(4, .int xq8), (3, .int xq4), (2, .int xq3), (0, .ref 116), (1, .int a1)]) d_M_frees_66 rfl ?_
        refine rz_pure (pc' := 70) d_M_frees_68 rfl ?_
        refine rz_ifeq (tgt := 76) d_M_frees_70 rfl (fun b9 => ?_) (fun b9 => ?_)
        · skip
          refine rz_pure (pc' := 77) d_M_frees_76 rfl ?_
          refine rz_pure (pc' := 78) d_M_frees_77 rfl ?_
          refine rz_pure (pc' := 79) d_M_frees_78 rfl ?_
          refine rz_callVv (t := [.int xq4, .int xq3]) d_M_frees_79 w_12_183 rfl rfl rfl (q8.1 b9) (fun Sq10 q10 => ?_)
          refine rz_pure (pc' := 83) d_M_frees_82 rfl ?_
          refine rz_callVi (t := []) d_M_frees_83 w_12_189 rfl rfl rfl q10 (fun xq11 Sq11 q11 => ?_)
          exact rz_ireti d_M_frees_86 rfl rfl q11
        · skip
          refine rz_pure (pc' := 75) d_M_frees_73 rfl ?_
          exact rz_ireti d_M_frees_75 rfl rfl (q8.2 b9)
      · skip
        refine rz_pure (pc' := 54) d_M_frees_53 rfl ?_
        refine rz_bipush (v := 66) d_M_frees_54 (by decide) ?_
        refine rz_pure (pc' := 57) d_M_frees_56 rfl ?_
        refine rz_pure (pc' := 58) d_M_frees_57 rfl ?_
        refine rz_callVi (t := [.int xq4, .int xq3, .int 66]) d_M_frees_58 w_12_113 rfl rfl rfl (q6.1 b7) (fun xq12 Sq12 q12 => ?_)
        exact rz_ireti d_M_frees_61 rfl rfl q12
    · skip
      refine rz_pure (pc' := 37) d_M_frees_36 rfl ?_
      refine rz_bipush (v := 30) d_M_frees_37 (by decide) ?_
      refine rz_iconst (v := 0) d_M_frees_39 (by decide) ?_
      refine rz_iconst (v := 0) d_M_frees_40 (by decide) ?_
      refine rz_callVi (t := [.int 0, .int 0, .int 30]) d_M_frees_41 w_12_113 rfl rfl rfl (q4.2 b5) (fun xq13 Sq13 q13 => ?_)
      exact rz_ireti d_M_frees_44 rfl rfl q13
  · skip
    refine rz_pure (pc' := 9) d_M_frees_8 rfl ?_
    refine rz_bipush (v := 30) d_M_frees_9 (by decide) ?_
    refine rz_iconst (v := 0) d_M_frees_11 (by decide) ?_
    refine rz_iconst (v := 0) d_M_frees_12 (by decide) ?_
    refine rz_callVi (t := [.int 0, .int 0, .int 30]) d_M_frees_13 w_12_113 rfl rfl rfl (q1.1 b2) (fun xq14 Sq14 q14 => ?_)
    exact rz_ireti d_M_frees_16 rfl rfl q14
theorem d_M_get_0 : decode (rm_code mM_get) 0 = .ok (.aload_n 0, 1) := by decide +kernel
theorem d_M_get_1 : decode (rm_code mM_get) 1 = .ok (.getfield 614, 3) := by decide +kernel
theorem d_M_get_4 : decode (rm_code mM_get) 4 = .ok (.iload_n 1, 1) := by decide +kernel
theorem d_M_get_5 : decode (rm_code mM_get) 5 = .ok (.sipush (2047), 3) := by decide +kernel
theorem d_M_get_8 : decode (rm_code mM_get) 8 = .ok (.iand, 1) := by decide +kernel
theorem d_M_get_9 : decode (rm_code mM_get) 9 = .ok (.baload, 1) := by decide +kernel
theorem d_M_get_10 : decode (rm_code mM_get) 10 = .ok (.sipush (255), 3) := by decide +kernel
theorem d_M_get_13 : decode (rm_code mM_get) 13 = .ok (.iand, 1) := by decide +kernel
theorem d_M_get_14 : decode (rm_code mM_get) 14 = .ok (.ireturn, 1) := by decide +kernel
theorem p_M_get_0 {S : rz_S} {K : Int32 → rz_S → Prop} {a1 : Int32} (w : rx_in (a1 &&& 2047) 2048 = true ∧ K ((S.1 155 ((a1 &&& 2047).toNatClampNeg)) &&& 255) S) : rz mM_get 0 [(0, .ref 116), (1, .int a1)] [] S (rz_i K) := by
  refine rz_pure (pc' := 1) d_M_get_0 rfl ?_
  refine rz_getr d_M_get_1 f_12_614 rfl rfl ?_
  refine rz_pure (pc' := 5) d_M_get_4 rfl ?_
  refine rz_sipush (v := 2047) d_M_get_5 (by decide) ?_
  refine rz_iand d_M_get_8 ?_
  refine rz_baldv (F := S.1 155) (i := (a1 &&& 2047).toNatClampNeg) d_M_get_9 rfl (by decide) w.1 rfl rfl ?_
  refine rz_sipush (v := 255) d_M_get_10 (by decide) ?_
  refine rz_iand d_M_get_13 ?_
  exact rz_ireti d_M_get_14 rfl rfl w.2
theorem d_M_put_0 : decode (rm_code mM_put) 0 = .ok (.aload_n 0, 1) := by decide +kernel
theorem d_M_put_1 : decode (rm_code mM_put) 1 = .ok (.getfield 614, 3) := by decide +kernel
theorem d_M_put_4 : decode (rm_code mM_put) 4 = .ok (.iload_n 1, 1) := by decide +kernel
theorem d_M_put_5 : decode (rm_code mM_put) 5 = .ok (.sipush (2047), 3) := by decide +kernel
theorem d_M_put_8 : decode (rm_code mM_put) 8 = .ok (.iand, 1) := by decide +kernel
theorem d_M_put_9 : decode (rm_code mM_put) 9 = .ok (.iload_n 2, 1) := by decide +kernel
theorem d_M_put_10 : decode (rm_code mM_put) 10 = .ok (.i2b, 1) := by decide +kernel
theorem d_M_put_11 : decode (rm_code mM_put) 11 = .ok (.bastore, 1) := by decide +kernel
theorem d_M_put_12 : decode (rm_code mM_put) 12 = .ok (.return_, 1) := by decide +kernel
theorem p_M_put_0 {S : rz_S} {K : rz_S → Prop} {a1 : Int32} {a2 : Int32} (w : rx_in (a1 &&& 2047) 2048 = true ∧ K (rz_fA S 155 (upd (S.1 155) ((a1 &&& 2047).toNatClampNeg) (vp_nar .byte a2.toInt8.toInt32)))) : rz mM_put 0 [(0, .ref 116), (1, .int a1), (2, .int a2)] [] S (rz_v K) := by
  refine rz_pure (pc' := 1) d_M_put_0 rfl ?_
  refine rz_getr d_M_put_1 f_12_614 rfl rfl ?_
  refine rz_pure (pc' := 5) d_M_put_4 rfl ?_
  refine rz_sipush (v := 2047) d_M_put_5 (by decide) ?_
  refine rz_iand d_M_put_8 ?_
  refine rz_pure (pc' := 10) d_M_put_9 rfl ?_
  refine rz_i2b d_M_put_10 ?_
  refine rz_bastv (F := S.1 155) (i := (a1 &&& 2047).toNatClampNeg) d_M_put_11 rfl w.1 rfl rfl ?_
  exact rz_vretv d_M_put_12 rfl w.2
theorem d_M_memories_0 : decode (rm_code mM_memories) 0 = .ok (.iload_n 1, 1) := by decide +kernel
theorem d_M_memories_1 : decode (rm_code mM_memories) 1 = .ok (.iconst 3, 1) := by decide +kernel
theorem d_M_memories_2 : decode (rm_code mM_memories) 2 = .ok (.if_icmp .le (12), 3) := by decide +kernel
theorem d_M_memories_5 : decode (rm_code mM_memories) 5 = .ok (.aload_n 0, 1) := by decide +kernel
theorem d_M_memories_6 : decode (rm_code mM_memories) 6 = .ok (.getfield 260, 3) := by decide +kernel
theorem d_M_memories_9 : decode (rm_code mM_memories) 9 = .ok (.iconst 3, 1) := by decide +kernel
theorem d_M_memories_10 : decode (rm_code mM_memories) 10 = .ok (.iaload, 1) := by decide +kernel
theorem d_M_memories_11 : decode (rm_code mM_memories) 11 = .ok (.goto (4), 3) := by decide +kernel
theorem d_M_memories_14 : decode (rm_code mM_memories) 14 = .ok (.iconst 0, 1) := by decide +kernel
theorem d_M_memories_15 : decode (rm_code mM_memories) 15 = .ok (.istore_n 2, 1) := by decide +kernel
theorem d_M_memories_16 : decode (rm_code mM_memories) 16 = .ok (.iload_n 1, 1) := by decide +kernel
theorem d_M_memories_17 : decode (rm_code mM_memories) 17 = .ok (.iconst 4, 1) := by decide +kernel
theorem d_M_memories_18 : decode (rm_code mM_memories) 18 = .ok (.if_icmp .le (12), 3) := by decide +kernel
theorem d_M_memories_21 : decode (rm_code mM_memories) 21 = .ok (.aload_n 0, 1) := by decide +kernel
theorem d_M_memories_22 : decode (rm_code mM_memories) 22 = .ok (.getfield 260, 3) := by decide +kernel
theorem d_M_memories_25 : decode (rm_code mM_memories) 25 = .ok (.iconst 4, 1) := by decide +kernel
theorem d_M_memories_26 : decode (rm_code mM_memories) 26 = .ok (.iaload, 1) := by decide +kernel
theorem d_M_memories_27 : decode (rm_code mM_memories) 27 = .ok (.goto (4), 3) := by decide +kernel
theorem d_M_memories_30 : decode (rm_code mM_memories) 30 = .ok (.iconst 0, 1) := by decide +kernel
theorem d_M_memories_31 : decode (rm_code mM_memories) 31 = .ok (.istore_n 3, 1) := by decide +kernel
theorem d_M_memories_32 : decode (rm_code mM_memories) 32 = .ok (.iload_n 1, 1) := by decide +kernel
theorem d_M_memories_33 : decode (rm_code mM_memories) 33 = .ok (.iconst 5, 1) := by decide +kernel
theorem d_M_memories_34 : decode (rm_code mM_memories) 34 = .ok (.if_icmp .le (12), 3) := by decide +kernel
theorem d_M_memories_37 : decode (rm_code mM_memories) 37 = .ok (.aload_n 0, 1) := by decide +kernel
theorem d_M_memories_38 : decode (rm_code mM_memories) 38 = .ok (.getfield 260, 3) := by decide +kernel
theorem d_M_memories_41 : decode (rm_code mM_memories) 41 = .ok (.iconst 5, 1) := by decide +kernel
theorem d_M_memories_42 : decode (rm_code mM_memories) 42 = .ok (.iaload, 1) := by decide +kernel
theorem d_M_memories_43 : decode (rm_code mM_memories) 43 = .ok (.goto (4), 3) := by decide +kernel
theorem d_M_memories_46 : decode (rm_code mM_memories) 46 = .ok (.iconst 0, 1) := by decide +kernel
theorem d_M_memories_47 : decode (rm_code mM_memories) 47 = .ok (.istore 4, 2) := by decide +kernel
theorem d_M_memories_49 : decode (rm_code mM_memories) 49 = .ok (.iload_n 2, 1) := by decide +kernel
theorem d_M_memories_50 : decode (rm_code mM_memories) 50 = .ok (.sipush (256), 3) := by decide +kernel
theorem d_M_memories_53 : decode (rm_code mM_memories) 53 = .ok (.iload_n 3, 1) := by decide +kernel
theorem d_M_memories_54 : decode (rm_code mM_memories) 54 = .ok (.imul, 1) := by decide +kernel
theorem d_M_memories_55 : decode (rm_code mM_memories) 55 = .ok (.iadd, 1) := by decide +kernel
theorem d_M_memories_56 : decode (rm_code mM_memories) 56 = .ok (.istore 5, 2) := by decide +kernel
theorem d_M_memories_58 : decode (rm_code mM_memories) 58 = .ok (.aload_n 0, 1) := by decide +kernel
theorem d_M_memories_59 : decode (rm_code mM_memories) 59 = .ok (.getfield 260, 3) := by decide +kernel
theorem d_M_memories_62 : decode (rm_code mM_memories) 62 = .ok (.iconst 2, 1) := by decide +kernel
theorem d_M_memories_63 : decode (rm_code mM_memories) 63 = .ok (.iaload, 1) := by decide +kernel
theorem d_M_memories_64 : decode (rm_code mM_memories) 64 = .ok (.bipush (87), 2) := by decide +kernel
theorem d_M_memories_66 : decode (rm_code mM_memories) 66 = .ok (.if_icmp .ne (49), 3) := by decide +kernel
theorem d_M_memories_69 : decode (rm_code mM_memories) 69 = .ok (.iconst 0, 1) := by decide +kernel
theorem d_M_memories_70 : decode (rm_code mM_memories) 70 = .ok (.istore 6, 2) := by decide +kernel
theorem d_M_memories_72 : decode (rm_code mM_memories) 72 = .ok (.iload 6, 2) := by decide +kernel
theorem d_M_memories_74 : decode (rm_code mM_memories) 74 = .ok (.iload 4, 2) := by decide +kernel
theorem d_M_memories_76 : decode (rm_code mM_memories) 76 = .ok (.if_icmp .ge (37), 3) := by decide +kernel
theorem d_M_memories_79 : decode (rm_code mM_memories) 79 = .ok (.bipush (6), 2) := by decide +kernel
theorem d_M_memories_81 : decode (rm_code mM_memories) 81 = .ok (.iload 6, 2) := by decide +kernel
theorem d_M_memories_83 : decode (rm_code mM_memories) 83 = .ok (.iadd, 1) := by decide +kernel
theorem d_M_memories_84 : decode (rm_code mM_memories) 84 = .ok (.iload_n 1, 1) := by decide +kernel
theorem d_M_memories_85 : decode (rm_code mM_memories) 85 = .ok (.if_icmp .ge (28), 3) := by decide +kernel
theorem d_M_memories_88 : decode (rm_code mM_memories) 88 = .ok (.aload_n 0, 1) := by decide +kernel
theorem d_M_memories_89 : decode (rm_code mM_memories) 89 = .ok (.iload 5, 2) := by decide +kernel
theorem d_M_memories_91 : decode (rm_code mM_memories) 91 = .ok (.iload 6, 2) := by decide +kernel
theorem d_M_memories_93 : decode (rm_code mM_memories) 93 = .ok (.iadd, 1) := by decide +kernel
theorem d_M_memories_94 : decode (rm_code mM_memories) 94 = .ok (.aload_n 0, 1) := by decide +kernel
theorem d_M_memories_95 : decode (rm_code mM_memories) 95 = .ok (.getfield 260, 3) := by decide +kernel
theorem d_M_memories_98 : decode (rm_code mM_memories) 98 = .ok (.bipush (6), 2) := by decide +kernel
theorem d_M_memories_100 : decode (rm_code mM_memories) 100 = .ok (.iload 6, 2) := by decide +kernel
theorem d_M_memories_102 : decode (rm_code mM_memories) 102 = .ok (.iadd, 1) := by decide +kernel
theorem d_M_memories_103 : decode (rm_code mM_memories) 103 = .ok (.iaload, 1) := by decide +kernel
theorem d_M_memories_104 : decode (rm_code mM_memories) 104 = .ok (.invokevirtual 617, 3) := by decide +kernel
theorem d_M_memories_107 : decode (rm_code mM_memories) 107 = .ok (.iinc 6 (1), 3) := by decide +kernel
theorem d_M_memories_110 : decode (rm_code mM_memories) 110 = .ok (.goto (-38), 3) := by decide +kernel
theorem d_M_memories_113 : decode (rm_code mM_memories) 113 = .ok (.iconst 0, 1) := by decide +kernel
theorem d_M_memories_114 : decode (rm_code mM_memories) 114 = .ok (.ireturn, 1) := by decide +kernel
theorem d_M_memories_115 : decode (rm_code mM_memories) 115 = .ok (.aload_n 0, 1) := by decide +kernel
theorem d_M_memories_116 : decode (rm_code mM_memories) 116 = .ok (.getfield 260, 3) := by decide +kernel
theorem d_M_memories_119 : decode (rm_code mM_memories) 119 = .ok (.iconst 2, 1) := by decide +kernel
theorem d_M_memories_120 : decode (rm_code mM_memories) 120 = .ok (.iaload, 1) := by decide +kernel
theorem d_M_memories_121 : decode (rm_code mM_memories) 121 = .ok (.bipush (82), 2) := by decide +kernel
theorem d_M_memories_123 : decode (rm_code mM_memories) 123 = .ok (.if_icmp .ne (61), 3) := by decide +kernel
theorem d_M_memories_126 : decode (rm_code mM_memories) 126 = .ok (.iload 4, 2) := by decide +kernel
theorem d_M_memories_128 : decode (rm_code mM_memories) 128 = .ok (.bipush (32), 2) := by decide +kernel
theorem d_M_memories_130 : decode (rm_code mM_memories) 130 = .ok (.if_icmp .le (12), 3) := by decide +kernel
theorem d_M_memories_133 : decode (rm_code mM_memories) 133 = .ok (.aload_n 0, 1) := by decide +kernel
theorem d_M_memories_134 : decode (rm_code mM_memories) 134 = .ok (.bipush (32), 2) := by decide +kernel
theorem d_M_memories_136 : decode (rm_code mM_memories) 136 = .ok (.iconst 0, 1) := by decide +kernel
theorem d_M_memories_137 : decode (rm_code mM_memories) 137 = .ok (.iconst 0, 1) := by decide +kernel
theorem d_M_memories_138 : decode (rm_code mM_memories) 138 = .ok (.invokevirtual 113, 3) := by decide +kernel
theorem d_M_memories_141 : decode (rm_code mM_memories) 141 = .ok (.ireturn, 1) := by decide +kernel
theorem d_M_memories_142 : decode (rm_code mM_memories) 142 = .ok (.aload_n 0, 1) := by decide +kernel
theorem d_M_memories_143 : decode (rm_code mM_memories) 143 = .ok (.iload 4, 2) := by decide +kernel
theorem d_M_memories_145 : decode (rm_code mM_memories) 145 = .ok (.putfield 242, 3) := by decide +kernel
theorem d_M_memories_148 : decode (rm_code mM_memories) 148 = .ok (.iconst 0, 1) := by decide +kernel
theorem d_M_memories_149 : decode (rm_code mM_memories) 149 = .ok (.istore 6, 2) := by decide +kernel
theorem d_M_memories_151 : decode (rm_code mM_memories) 151 = .ok (.iload 6, 2) := by decide +kernel
theorem d_M_memories_153 : decode (rm_code mM_memories) 153 = .ok (.aload_n 0, 1) := by decide +kernel
theorem d_M_memories_154 : decode (rm_code mM_memories) 154 = .ok (.getfield 242, 3) := by decide +kernel
theorem d_M_memories_157 : decode (rm_code mM_memories) 157 = .ok (.if_icmp .ge (25), 3) := by decide +kernel
theorem d_M_memories_160 : decode (rm_code mM_memories) 160 = .ok (.aload_n 0, 1) := by decide +kernel
theorem d_M_memories_161 : decode (rm_code mM_memories) 161 = .ok (.getfield 392, 3) := by decide +kernel
theorem d_M_memories_164 : decode (rm_code mM_memories) 164 = .ok (.iload 6, 2) := by decide +kernel
theorem d_M_memories_166 : decode (rm_code mM_memories) 166 = .ok (.aload_n 0, 1) := by decide +kernel
theorem d_M_memories_167 : decode (rm_code mM_memories) 167 = .ok (.iload 5, 2) := by decide +kernel
theorem d_M_memories_169 : decode (rm_code mM_memories) 169 = .ok (.iload 6, 2) := by decide +kernel
theorem d_M_memories_171 : decode (rm_code mM_memories) 171 = .ok (.iadd, 1) := by decide +kernel
theorem d_M_memories_172 : decode (rm_code mM_memories) 172 = .ok (.invokevirtual 620, 3) := by decide +kernel
theorem d_M_memories_175 : decode (rm_code mM_memories) 175 = .ok (.iastore, 1) := by decide +kernel
theorem d_M_memories_176 : decode (rm_code mM_memories) 176 = .ok (.iinc 6 (1), 3) := by decide +kernel
theorem d_M_memories_179 : decode (rm_code mM_memories) 179 = .ok (.goto (-28), 3) := by decide +kernel
theorem d_M_memories_182 : decode (rm_code mM_memories) 182 = .ok (.iconst 0, 1) := by decide +kernel
theorem d_M_memories_183 : decode (rm_code mM_memories) 183 = .ok (.ireturn, 1) := by decide +kernel
theorem d_M_memories_184 : decode (rm_code mM_memories) 184 = .ok (.aload_n 0, 1) := by decide +kernel
theorem d_M_memories_185 : decode (rm_code mM_memories) 185 = .ok (.iload 5, 2) := by decide +kernel
theorem d_M_memories_187 : decode (rm_code mM_memories) 187 = .ok (.sipush (2047), 3) := by decide +kernel
theorem d_M_memories_190 : decode (rm_code mM_memories) 190 = .ok (.iand, 1) := by decide +kernel
theorem d_M_memories_191 : decode (rm_code mM_memories) 191 = .ok (.invokevirtual 623, 3) := by decide +kernel
theorem d_M_memories_194 : decode (rm_code mM_memories) 194 = .ok (.ireturn, 1) := by decide +kernel
theorem p_M_memories_0 {S : rz_S} {K : Int32 → rz_S → Prop} {a1 : Int32} (w : ((a1 ≤ 3 → rz mM_memories 15 [(0, .ref 116), (1, .int a1)] [.int 0] S (rz_i K)) ∧ (¬ a1 ≤ 3 → rz mM_memories 15 [(0, .ref 116), (1, .int a1)] [.int (S.1 151 3)] S (rz_i K)))) : rz mM_memories 0 [(0, .ref 116), (1, .int a1)] [] S (rz_i K) := by
  refine rz_pure (pc' := 1) d_M_memories_0 rfl ?_
  refine rz_iconst (v := 3) d_M_memories_1 (by decide) ?_
  refine rz_icmple (tgt := 14) d_M_memories_2 rfl (fun b1 => ?_) (fun b1 => ?_)
  · skip
    refine rz_iconst (v := 0) d_M_memories_14 (by decide) ?_
    exact rz_pick (ks := [0, 1]) (l := [(0, .ref 116), (1, .int a1)]) rfl rfl (by decide) rfl (w.1 b1)
  · skip
    refine rz_pure (pc' := 6) d_M_memories_5 rfl ?_
    refine rz_getr d_M_memories_6 f_12_260 rfl rfl ?_
    refine rz_iconst (v := 3) d_M_memories_9 (by decide) ?_
    refine rz_ialdv (F := S.1 151) (i := 3) d_M_memories_10 rfl (by decide) rfl (by decide) ?_
    refine rz_pure (pc' := 15) d_M_memories_11 rfl ?_
    exact rz_pick (ks := [0, 1]) (l := [(0, .ref 116), (1, .int a1)]) rfl rfl (by decide) rfl (w.2 b1)
theorem p_M_memories_15 {S : rz_S} {K : Int32 → rz_S → Prop} {a1 : Int32} {s0 : Int32} (w : ((a1 ≤ 4 → rz mM_memories 31 [(0, .ref 116), (1, .int a1), (2, .int s0)] [.int 0] S (rz_i K)) ∧ (¬ a1 ≤ 4 → rz mM_memories 31 [(0, .ref 116), (1, .int a1), (2, .int s0)] [.int (S.1 151 4)] S (rz_i K)))) : rz mM_memories 15 [(0, .ref 116), (1, .int a1)] [.int s0] S (rz_i K) := by
  refine rz_pure (pc' := 16) (l' := [(2, .int s0), (0, .ref 116), (1, .int a1)]) d_M_memories_15 rfl ?_
  refine rz_pure (pc' := 17) d_M_memories_16 rfl ?_
  refine rz_iconst (v := 4) d_M_memories_17 (by decide) ?_
  refine rz_icmple (tgt := 30) d_M_memories_18 rfl (fun b1 => ?_) (fun b1 => ?_)
  · skip
    refine rz_iconst (v := 0) d_M_memories_30 (by decide) ?_
    exact rz_pick (ks := [0, 1, 2]) (l := [(0, .ref 116), (1, .int a1), (2, .int s0)]) rfl rfl (by decide) rfl (w.1 b1)
  · skip
    refine rz_pure (pc' := 22) d_M_memories_21 rfl ?_
    refine rz_getr d_M_memories_22 f_12_260 rfl rfl ?_
    refine rz_iconst (v := 4) d_M_memories_25 (by decide) ?_
    refine rz_ialdv (F := S.1 151) (i := 4) d_M_memories_26 rfl (by decide) rfl (by decide) ?_
    refine rz_pure (pc' := 31) d_M_memories_27 rfl ?_
    exact rz_pick (ks := [0, 1, 2]) (l := [(0, .ref 116), (1, .int a1), (2, .int s0)]) rfl rfl (by decide) rfl (w.2 b1)
theorem p_M_memories_31 {S : rz_S} {K : Int32 → rz_S → Prop} {a1 : Int32} {a2 : Int32} {s0 : Int32} (w : ((a1 ≤ 5 → rz mM_memories 47 [(0, .ref 116), (1, .int a1), (2, .int a2), (3, .int s0)] [.int 0] S (rz_i K)) ∧ (¬ a1 ≤ 5 → rz mM_memories 47 [(0, .ref 116), (1, .int a1), (2, .int a2), (3, .int s0)] [.int (S.1 151 5)] S (rz_i K)))) : rz mM_memories 31 [(0, .ref 116), (1, .int a1), (2, .int a2)] [.int s0] S (rz_i K) := by
  refine rz_pure (pc' := 32) (l' := [(3, .int s0), (0, .ref 116), (1, .int a1), (2, .int a2)]) d_M_memories_31 rfl ?_
  refine rz_pure (pc' := 33) d_M_memories_32 rfl ?_
  refine rz_iconst (v := 5) d_M_memories_33 (by decide) ?_
  refine rz_icmple (tgt := 46) d_M_memories_34 rfl (fun b1 => ?_) (fun b1 => ?_)
  · skip
    refine rz_iconst (v := 0) d_M_memories_46 (by decide) ?_
    exact rz_pick (ks := [0, 1, 2, 3]) (l := [(0, .ref 116), (1, .int a1), (2, .int a2), (3, .int s0)]) rfl rfl (by decide) rfl (w.1 b1)
  · skip
    refine rz_pure (pc' := 38) d_M_memories_37 rfl ?_
    refine rz_getr d_M_memories_38 f_12_260 rfl rfl ?_
    refine rz_iconst (v := 5) d_M_memories_41 (by decide) ?_
    refine rz_ialdv (F := S.1 151) (i := 5) d_M_memories_42 rfl (by decide) rfl (by decide) ?_
    refine rz_pure (pc' := 47) d_M_memories_43 rfl ?_
    exact rz_pick (ks := [0, 1, 2, 3]) (l := [(0, .ref 116), (1, .int a1), (2, .int a2), (3, .int s0)]) rfl rfl (by decide) rfl (w.2 b1)
theorem p_M_memories_47 {S : rz_S} {K : Int32 → rz_S → Prop} {a1 : Int32} {a2 : Int32} {a3 : Int32} {s0 : Int32} (w : ((S.1 151 2 = 87 → rz mM_memories 72 [(0, .ref 116), (1, .int a1), (4, .int s0), (5, .int (a2 + (256 * a3))), (6, .int 0)] [] S (rz_i K)) ∧ (¬ S.1 151 2 = 87 → ((S.1 151 2 = 82 → ((s0 ≤ 32 → rz mM_memories 151 [(0, .ref 116), (5, .int (a2 + (256 * a3))), (6, .int 0)] [] (rz_uI S 116 61 s0) (rz_i K)) ∧ (¬ s0 ≤ 32 → rz_ev mM_fault [.ref 116, .int 32, .int 0, .int 0] S (rz_i (fun xq5 Sq5 => K xq5 Sq5))))) ∧ (¬ S.1 151 2 = 82 → rz_ev mM_runs [.ref 116, .int ((a2 + (256 * a3)) &&& 2047)] S (rz_i (fun xq3 Sq3 => K xq3 Sq3))))))) : rz mM_memories 47 [(0, .ref 116), (1, .int a1), (2, .int a2), (3, .int a3)] [.int s0] S (rz_i K) := by
  refine rz_pure (pc' := 49) (l' := [(4, .int s0), (0, .ref 116), (1, .int a1), (2, .int a2), (3, .int a3)]) d_M_memories_47 rfl ?_
  refine rz_pure (pc' := 50) d_M_memories_49 rfl ?_
  refine rz_sipush (v := 256) d_M_memories_50 (by decide) ?_
  refine rz_pure (pc' := 54) d_M_memories_53 rfl ?_
  refine rz_imul d_M_memories_54 ?_
  refine rz_iadd d_M_memories_55 ?_
  refine rz_pure (pc' := 58) (l' := [(5, .int (a2 + (256 * a3))), (4, .int s0), (0, .ref 116), (1, .int a1), (2, .int a2), (3, .int a3)]) d_M_memories_56 rfl ?_
  refine rz_pure (pc' := 59) d_M_memories_58 rfl ?_
  refine rz_getr d_M_memories_59 f_12_260 rfl rfl ?_
  refine rz_iconst (v := 2) d_M_memories_62 (by decide) ?_
  refine rz_ialdv (F := S.1 151) (i := 2) d_M_memories_63 rfl (by decide) rfl (by decide) ?_
  refine rz_bipush (v := 87) d_M_memories_64 (by decide) ?_
  refine rz_icmpne (tgt := 115) d_M_memories_66 rfl (fun b1 => ?_) (fun b1 => ?_)
  · skip
    refine rz_pure (pc' := 116) d_M_memories_115 rfl ?_
    refine rz_getr d_M_memories_116 f_12_260 rfl rfl ?_
    refine rz_iconst (v := 2) d_M_memories_119 (by decide) ?_
    refine rz_ialdv (F := S.1 151) (i := 2) d_M_memories_120 rfl (by decide) rfl (by decide) ?_
    refine rz_bipush (v := 82) d_M_memories_121 (by decide) ?_
    refine rz_icmpne (tgt := 184) d_M_memories_123 rfl (fun b2 => ?_) (fun b2 => ?_)
    · skip
      refine rz_pure (pc' := 185) d_M_memories_184 rfl ?_
      refine rz_pure (pc' := 187) d_M_memories_185 rfl ?_
      refine rz_sipush (v := 2047) d_M_memories_187 (by decide) ?_
      refine rz_iand d_M_memories_190 ?_
      refine rz_callVi (t := [.int ((a2 + (256 * a3)) &&& 2047)]) d_M_memories_191 w_12_623 rfl rfl rfl ((w.2 b1).2 b2) (fun xq3 Sq3 q3 => ?_)
      exact rz_ireti d_M_memories_194 rfl rfl q3
    · skip
      refine rz_pure (pc' := 128) d_M_memories_126 rfl ?_
      refine rz_bipush (v := 32) d_M_memories_128 (by decide) ?_
      refine rz_icmple (tgt := 142) d_M_memories_130 rfl (fun b4 => ?_) (fun b4 => ?_)
      · skip
        refine rz_pure (pc' := 143) d_M_memories_142 rfl ?_
        refine rz_pure (pc' := 145) d_M_memories_143 rfl ?_
        refine rz_puti d_M_memories_145 f_12_242 rfl rfl rfl ?_
        refine rz_iconst (v := 0) d_M_memories_148 (by decide) ?_
        refine rz_pure (pc' := 151) (l' := [(6, .int 0), (5, .int (a2 + (256 * a3))), (4, .int s0), (0, .ref 116), (1, .int a1), (2, .int a2), (3, .int a3)]) d_M_memories_149 rfl ?_
        exact rz_pick (ks := [0, 5, 6]) (l := [(0, .ref 116), (5, .int (a2 + (256 * a3))), (6, .int 0)]) rfl rfl (by decide) rfl (((w.2 b1).1 b2).1 b4)
      · skip
        refine rz_pure (pc' := 134) d_M_memories_133 rfl ?_
        refine rz_bipush (v := 32) d_M_memories_134 (by decide) ?_
        refine rz_iconst (v := 0) d_M_memories_136 (by decide) ?_
        refine rz_iconst (v := 0) d_M_memories_137 (by decide) ?_
        refine rz_callVi (t := [.int 0, .int 0, .int 32]) d_M_memories_138 w_12_113 rfl rfl rfl (((w.2 b1).1 b2).2 b4) (fun xq5 Sq5 q5 => ?_)
        exact rz_ireti d_M_memories_141 rfl rfl q5
  · skip
    refine rz_iconst (v := 0) d_M_memories_69 (by decide) ?_
    refine rz_pure (pc' := 72) (l' := [(6, .int 0), (5, .int (a2 + (256 * a3))), (4, .int s0), (0, .ref 116), (1, .int a1), (2, .int a2), (3, .int a3)]) d_M_memories_70 rfl ?_
    exact rz_pick (ks := [0, 1, 4, 5, 6]) (l := [(0, .ref 116), (1, .int a1), (4, .int s0), (5, .int (a2 + (256 * a3))), (6, .int 0)]) rfl rfl (by decide) rfl (w.1 b1)
theorem p_M_memories_151 {S : rz_S} {K : Int32 → rz_S → Prop} {a5 : Int32} {a6 : Int32} (w : ((S.2 116 61 ≤ a6 → K 0 S) ∧ (¬ S.2 116 61 ≤ a6 → rz_ev mM_get [.ref 116, .int (a5 + a6)] S (rz_i (fun xq2 Sq2 => rx_in a6 32 = true ∧ rz mM_memories 151 [(0, .ref 116), (5, .int a5), (6, .int (a6 + 1))] [] (rz_fA Sq2 149 (upd (Sq2.1 149) a6.toNatClampNeg xq2)) (rz_i K)))))) : rz mM_memories 151 [(0, .ref 116), (5, .int a5), (6, .int a6)] [] S (rz_i K) := by
  refine rz_pure (pc' := 153) d_M_memories_151 rfl ?_
  refine rz_pure (pc' := 154) d_M_memories_153 rfl ?_
  refine rz_getiv (v := S.2 116 61) d_M_memories_154 f_12_242 rfl rfl rfl ?_
  refine rz_icmpge (tgt := 182) d_M_memories_157 rfl (fun b1 => ?_) (fun b1 => ?_)
  · skip
    refine rz_iconst (v := 0) d_M_memories_182 (by decide) ?_
    exact rz_ireti d_M_memories_183 rfl rfl (w.1 b1)
  · skip
    refine rz_pure (pc' := 161) d_M_memories_160 rfl ?_
    refine rz_getr d_M_memories_161 f_12_392 rfl rfl ?_
    refine rz_pure (pc' := 166) d_M_memories_164 rfl ?_
    refine rz_pure (pc' := 167) d_M_memories_166 rfl ?_
    refine rz_pure (pc' := 169) d_M_memories_167 rfl ?_
    refine rz_pure (pc' := 171) d_M_memories_169 rfl ?_
    refine rz_iadd d_M_memories_171 ?_
    refine rz_callVi (t := [.int (a5 + a6)]) d_M_memories_172 w_12_620 rfl rfl rfl (w.2 b1) (fun xq2 Sq2 q2 => ?_)
    refine rz_iastv (F := Sq2.1 149) (i := a6.toNatClampNeg) d_M_memories_175 rfl q2.1 rfl rfl ?_
    refine rz_pure (pc' := 179) (l' := [(6, .int (a6 + 1)), (0, .ref 116), (5, .int a5)]) d_M_memories_176 rfl ?_
    refine rz_pure (pc' := 151) d_M_memories_179 rfl ?_
    exact rz_pick (ks := [0, 5, 6]) (l := [(0, .ref 116), (5, .int a5), (6, .int (a6 + 1))]) rfl rfl (by decide) rfl q2.2
theorem p_M_memories_72 {S : rz_S} {K : Int32 → rz_S → Prop} {a1 : Int32} {a4 : Int32} {a5 : Int32} {a6 : Int32} (w : ((a4 ≤ a6 → K 0 S) ∧ (¬ a4 ≤ a6 → ((a1 ≤ 6 + a6 → K 0 S) ∧ (¬ a1 ≤ 6 + a6 → rx_in (6 + a6) 401 = true ∧ rz_ev mM_put [.ref 116, .int (a5 + a6), .int (S.1 151 ((6 + a6).toNatClampNeg))] S (rz_v (fun Sq3 => rz mM_memories 72 [(0, .ref 116), (1, .int a1), (4, .int a4), (5, .int a5), (6, .int (a6 + 1))] [] Sq3 (rz_i K)))))))) : rz mM_memories 72 [(0, .ref 116), (1, .int a1), (4, .int a4), (5, .int a5), (6, .int a6)] [] S (rz_i K) := by
  refine rz_pure (pc' := 74) d_M_memories_72 rfl ?_
  refine rz_pure (pc' := 76) d_M_memories_74 rfl ?_
  refine rz_icmpge (tgt := 113) d_M_memories_76 rfl (fun b1 => ?_) (fun b1 => ?_)
  · skip
    refine rz_iconst (v := 0) d_M_memories_113 (by decide) ?_
    exact rz_ireti d_M_memories_114 rfl rfl (w.1 b1)
  · skip
    refine rz_bipush (v := 6) d_M_memories_79 (by decide) ?_
    refine rz_pure (pc' := 83) d_M_memories_81 rfl ?_
    refine rz_iadd d_M_memories_83 ?_
    refine rz_pure (pc' := 85) d_M_memories_84 rfl ?_
    refine rz_icmpge (tgt := 113) d_M_memories_85 rfl (fun b2 => ?_) (fun b2 => ?_)
    · skip
      refine rz_iconst (v := 0) d_M_memories_113 (by decide) ?_
      exact rz_ireti d_M_memories_114 rfl rfl ((w.2 b1).1 b2)
    · skip
      refine rz_pure (pc' := 89) d_M_memories_88 rfl ?_
      refine rz_pure (pc' := 91) d_M_memories_89 rfl ?_
      refine rz_pure (pc' := 93) d_M_memories_91 rfl ?_
      refine rz_iadd d_M_memories_93 ?_
      refine rz_pure (pc' := 95) d_M_memories_94 rfl ?_
      refine rz_getr d_M_memories_95 f_12_260 rfl rfl ?_
      refine rz_bipush (v := 6) d_M_memories_98 (by decide) ?_
      refine rz_pure (pc' := 102) d_M_memories_100 rfl ?_
      refine rz_iadd d_M_memories_102 ?_
      refine rz_ialdv (F := S.1 151) (i := (6 + a6).toNatClampNeg) d_M_memories_103 rfl ((w.2 b1).2 b2).1 rfl rfl ?_
      refine rz_callVv (t := [.int (S.1 151 ((6 + a6).toNatClampNeg)), .int (a5 + a6)]) d_M_memories_104 w_12_617 rfl rfl rfl ((w.2 b1).2 b2).2 (fun Sq3 q3 => ?_)
      refine rz_pure (pc' := 110) (l' := [(6, .int (a6 + 1)), (0, .ref 116), (1, .int a1), (4, .int a4), (5, .int a5)]) d_M_memories_107 rfl ?_
      refine rz_pure (pc' := 72) d_M_memories_110 rfl ?_
      exact rz_pick (ks := [0, 1, 4, 5, 6]) (l := [(0, .ref 116), (1, .int a1), (4, .int a4), (5, .int a5), (6, .int (a6 + 1))]) rfl rfl (by decide) rfl q3
theorem d_M_runs_0 : decode (rm_code mM_runs) 0 = .ok (.aload_n 0, 1) := by decide +kernel
theorem d_M_runs_1 : decode (rm_code mM_runs) 1 = .ok (.iconst 0, 1) := by decide +kernel
theorem d_M_runs_2 : decode (rm_code mM_runs) 2 = .ok (.putfield 626, 3) := by decide +kernel
theorem d_M_runs_5 : decode (rm_code mM_runs) 5 = .ok (.aload_n 0, 1) := by decide +kernel
theorem d_M_runs_6 : decode (rm_code mM_runs) 6 = .ok (.iconst 0, 1) := by decide +kernel
theorem d_M_runs_7 : decode (rm_code mM_runs) 7 = .ok (.putfield 629, 3) := by decide +kernel
theorem d_M_runs_10 : decode (rm_code mM_runs) 10 = .ok (.aload_n 0, 1) := by decide +kernel
theorem d_M_runs_11 : decode (rm_code mM_runs) 11 = .ok (.iconst 0, 1) := by decide +kernel
theorem d_M_runs_12 : decode (rm_code mM_runs) 12 = .ok (.putfield 632, 3) := by decide +kernel
theorem d_M_runs_15 : decode (rm_code mM_runs) 15 = .ok (.aload_n 0, 1) := by decide +kernel
theorem d_M_runs_16 : decode (rm_code mM_runs) 16 = .ok (.sipush (255), 3) := by decide +kernel
theorem d_M_runs_19 : decode (rm_code mM_runs) 19 = .ok (.putfield 635, 3) := by decide +kernel
theorem d_M_runs_22 : decode (rm_code mM_runs) 22 = .ok (.aload_n 0, 1) := by decide +kernel
theorem d_M_runs_23 : decode (rm_code mM_runs) 23 = .ok (.bipush (36), 2) := by decide +kernel
theorem d_M_runs_25 : decode (rm_code mM_runs) 25 = .ok (.putfield 638, 3) := by decide +kernel
theorem d_M_runs_28 : decode (rm_code mM_runs) 28 = .ok (.aload_n 0, 1) := by decide +kernel
theorem d_M_runs_29 : decode (rm_code mM_runs) 29 = .ok (.iconst 0, 1) := by decide +kernel
theorem d_M_runs_30 : decode (rm_code mM_runs) 30 = .ok (.putfield 641, 3) := by decide +kernel
theorem d_M_runs_33 : decode (rm_code mM_runs) 33 = .ok (.aload_n 0, 1) := by decide +kernel
theorem d_M_runs_34 : decode (rm_code mM_runs) 34 = .ok (.iload_n 1, 1) := by decide +kernel
theorem d_M_runs_35 : decode (rm_code mM_runs) 35 = .ok (.putfield 644, 3) := by decide +kernel
theorem d_M_runs_38 : decode (rm_code mM_runs) 38 = .ok (.aload_n 0, 1) := by decide +kernel
theorem d_M_runs_39 : decode (rm_code mM_runs) 39 = .ok (.getfield 641, 3) := by decide +kernel
theorem d_M_runs_42 : decode (rm_code mM_runs) 42 = .ok (.sipush (10000), 3) := by decide +kernel
theorem d_M_runs_45 : decode (rm_code mM_runs) 45 = .ok (.if_icmp .ge (95), 3) := by decide +kernel
theorem d_M_runs_48 : decode (rm_code mM_runs) 48 = .ok (.aload_n 0, 1) := by decide +kernel
theorem d_M_runs_49 : decode (rm_code mM_runs) 49 = .ok (.getfield 644, 3) := by decide +kernel
theorem d_M_runs_52 : decode (rm_code mM_runs) 52 = .ok (.istore_n 2, 1) := by decide +kernel
theorem d_M_runs_53 : decode (rm_code mM_runs) 53 = .ok (.aload_n 0, 1) := by decide +kernel
theorem d_M_runs_54 : decode (rm_code mM_runs) 54 = .ok (.aload_n 0, 1) := by decide +kernel
theorem d_M_runs_55 : decode (rm_code mM_runs) 55 = .ok (.getfield 644, 3) := by decide +kernel
theorem d_M_runs_58 : decode (rm_code mM_runs) 58 = .ok (.invokevirtual 620, 3) := by decide +kernel
theorem d_M_runs_61 : decode (rm_code mM_runs) 61 = .ok (.istore_n 3, 1) := by decide +kernel
theorem d_M_runs_62 : decode (rm_code mM_runs) 62 = .ok (.iload_n 3, 1) := by decide +kernel
theorem d_M_runs_63 : decode (rm_code mM_runs) 63 = .ok (.ifCond .ne (21), 3) := by decide +kernel
theorem d_M_runs_66 : decode (rm_code mM_runs) 66 = .ok (.aload_n 0, 1) := by decide +kernel
theorem d_M_runs_67 : decode (rm_code mM_runs) 67 = .ok (.aload_n 0, 1) := by decide +kernel
theorem d_M_runs_68 : decode (rm_code mM_runs) 68 = .ok (.getfield 641, 3) := by decide +kernel
theorem d_M_runs_71 : decode (rm_code mM_runs) 71 = .ok (.bipush (7), 2) := by decide +kernel
theorem d_M_runs_73 : decode (rm_code mM_runs) 73 = .ok (.iadd, 1) := by decide +kernel
theorem d_M_runs_74 : decode (rm_code mM_runs) 74 = .ok (.putfield 641, 3) := by decide +kernel
theorem d_M_runs_77 : decode (rm_code mM_runs) 77 = .ok (.aload_n 0, 1) := by decide +kernel
theorem d_M_runs_78 : decode (rm_code mM_runs) 78 = .ok (.iload_n 2, 1) := by decide +kernel
theorem d_M_runs_79 : decode (rm_code mM_runs) 79 = .ok (.putfield 647, 3) := by decide +kernel
theorem d_M_runs_82 : decode (rm_code mM_runs) 82 = .ok (.iconst 0, 1) := by decide +kernel
theorem d_M_runs_83 : decode (rm_code mM_runs) 83 = .ok (.ireturn, 1) := by decide +kernel
theorem d_M_runs_84 : decode (rm_code mM_runs) 84 = .ok (.aload_n 0, 1) := by decide +kernel
theorem d_M_runs_85 : decode (rm_code mM_runs) 85 = .ok (.aload_n 0, 1) := by decide +kernel
theorem d_M_runs_86 : decode (rm_code mM_runs) 86 = .ok (.getfield 644, 3) := by decide +kernel
theorem d_M_runs_89 : decode (rm_code mM_runs) 89 = .ok (.iconst 1, 1) := by decide +kernel
theorem d_M_runs_90 : decode (rm_code mM_runs) 90 = .ok (.iadd, 1) := by decide +kernel
theorem d_M_runs_91 : decode (rm_code mM_runs) 91 = .ok (.sipush (2047), 3) := by decide +kernel
theorem d_M_runs_94 : decode (rm_code mM_runs) 94 = .ok (.iand, 1) := by decide +kernel
theorem d_M_runs_95 : decode (rm_code mM_runs) 95 = .ok (.putfield 644, 3) := by decide +kernel
theorem d_M_runs_98 : decode (rm_code mM_runs) 98 = .ok (.aload_n 0, 1) := by decide +kernel
theorem d_M_runs_99 : decode (rm_code mM_runs) 99 = .ok (.iload_n 3, 1) := by decide +kernel
theorem d_M_runs_100 : decode (rm_code mM_runs) 100 = .ok (.invokevirtual 650, 3) := by decide +kernel
theorem d_M_runs_103 : decode (rm_code mM_runs) 103 = .ok (.ifCond .ne (22), 3) := by decide +kernel
theorem d_M_runs_106 : decode (rm_code mM_runs) 106 = .ok (.aload_n 0, 1) := by decide +kernel
theorem d_M_runs_107 : decode (rm_code mM_runs) 107 = .ok (.iload_n 2, 1) := by decide +kernel
theorem d_M_runs_108 : decode (rm_code mM_runs) 108 = .ok (.putfield 644, 3) := by decide +kernel
theorem d_M_runs_111 : decode (rm_code mM_runs) 111 = .ok (.aload_n 0, 1) := by decide +kernel
theorem d_M_runs_112 : decode (rm_code mM_runs) 112 = .ok (.iload_n 2, 1) := by decide +kernel
theorem d_M_runs_113 : decode (rm_code mM_runs) 113 = .ok (.putfield 647, 3) := by decide +kernel
theorem d_M_runs_116 : decode (rm_code mM_runs) 116 = .ok (.aload_n 0, 1) := by decide +kernel
theorem d_M_runs_117 : decode (rm_code mM_runs) 117 = .ok (.bipush (28), 2) := by decide +kernel
theorem d_M_runs_119 : decode (rm_code mM_runs) 119 = .ok (.iconst 1, 1) := by decide +kernel
theorem d_M_runs_120 : decode (rm_code mM_runs) 120 = .ok (.iconst 0, 1) := by decide +kernel
theorem d_M_runs_121 : decode (rm_code mM_runs) 121 = .ok (.invokevirtual 113, 3) := by decide +kernel
theorem d_M_runs_124 : decode (rm_code mM_runs) 124 = .ok (.ireturn, 1) := by decide +kernel
theorem d_M_runs_125 : decode (rm_code mM_runs) 125 = .ok (.aload_n 0, 1) := by decide +kernel
theorem d_M_runs_126 : decode (rm_code mM_runs) 126 = .ok (.aload_n 0, 1) := by decide +kernel
theorem d_M_runs_127 : decode (rm_code mM_runs) 127 = .ok (.getfield 644, 3) := by decide +kernel
theorem d_M_runs_130 : decode (rm_code mM_runs) 130 = .ok (.sipush (2047), 3) := by decide +kernel
theorem d_M_runs_133 : decode (rm_code mM_runs) 133 = .ok (.iand, 1) := by decide +kernel
theorem d_M_runs_134 : decode (rm_code mM_runs) 134 = .ok (.putfield 644, 3) := by decide +kernel
theorem d_M_runs_137 : decode (rm_code mM_runs) 137 = .ok (.goto (-99), 3) := by decide +kernel
theorem d_M_runs_140 : decode (rm_code mM_runs) 140 = .ok (.aload_n 0, 1) := by decide +kernel
theorem d_M_runs_141 : decode (rm_code mM_runs) 141 = .ok (.aload_n 0, 1) := by decide +kernel
theorem d_M_runs_142 : decode (rm_code mM_runs) 142 = .ok (.getfield 644, 3) := by decide +kernel
theorem d_M_runs_145 : decode (rm_code mM_runs) 145 = .ok (.putfield 647, 3) := by decide +kernel
theorem d_M_runs_148 : decode (rm_code mM_runs) 148 = .ok (.aload_n 0, 1) := by decide +kernel
theorem d_M_runs_149 : decode (rm_code mM_runs) 149 = .ok (.bipush (28), 2) := by decide +kernel
theorem d_M_runs_151 : decode (rm_code mM_runs) 151 = .ok (.iconst 2, 1) := by decide +kernel
theorem d_M_runs_152 : decode (rm_code mM_runs) 152 = .ok (.iconst 0, 1) := by decide +kernel
theorem d_M_runs_153 : decode (rm_code mM_runs) 153 = .ok (.invokevirtual 113, 3) := by decide +kernel
theorem d_M_runs_156 : decode (rm_code mM_runs) 156 = .ok (.ireturn, 1) := by decide +kernel
theorem p_M_runs_0 {S : rz_S} {K : Int32 → rz_S → Prop} {a1 : Int32} (w : rz mM_runs 38 [(0, .ref 116)] [] (rz_uI (rz_uI (rz_uI (rz_uI (rz_uI (rz_uI (rz_uI S 116 75 0) 116 76 0) 116 77 0) 116 78 255) 116 79 36) 116 81 0) 116 80 a1) (rz_i K)) : rz mM_runs 0 [(0, .ref 116), (1, .int a1)] [] S (rz_i K) := by
  refine rz_pure (pc' := 1) d_M_runs_0 rfl ?_
  refine rz_iconst (v := 0) d_M_runs_1 (by decide) ?_
  refine rz_puti d_M_runs_2 f_12_626 rfl rfl rfl ?_
  refine rz_pure (pc' := 6) d_M_runs_5 rfl ?_
  refine rz_iconst (v := 0) d_M_runs_6 (by decide) ?_
  refine rz_puti d_M_runs_7 f_12_629 rfl rfl rfl ?_
  refine rz_pure (pc' := 11) d_M_runs_10 rfl ?_
  refine rz_iconst (v := 0) d_M_runs_11 (by decide) ?_
  refine rz_puti d_M_runs_12 f_12_632 rfl rfl rfl ?_
  refine rz_pure (pc' := 16) d_M_runs_15 rfl ?_
  refine rz_sipush (v := 255) d_M_runs_16 (by decide) ?_
  refine rz_puti d_M_runs_19 f_12_635 rfl rfl rfl ?_
  refine rz_pure (pc' := 23) d_M_runs_22 rfl ?_
  refine rz_bipush (v := 36) d_M_runs_23 (by decide) ?_
  refine rz_puti d_M_runs_25 f_12_638 rfl rfl rfl ?_
  refine rz_pure (pc' := 29) d_M_runs_28 rfl ?_
  refine rz_iconst (v := 0) d_M_runs_29 (by decide) ?_
  refine rz_puti d_M_runs_30 f_12_641 rfl rfl rfl ?_
  refine rz_pure (pc' := 34) d_M_runs_33 rfl ?_
  refine rz_pure (pc' := 35) d_M_runs_34 rfl ?_
  refine rz_puti d_M_runs_35 f_12_644 rfl rfl rfl ?_
  exact rz_pick (ks := [0]) (l := [(0, .ref 116)]) rfl rfl (by decide) rfl w
theorem p_M_runs_38 {S : rz_S} {K : Int32 → rz_S → Prop} (w : ((10000 ≤ S.2 116 81 → rz_ev mM_fault [.ref 116, .int 28, .int 2, .int 0] (rz_uI S 116 82 (S.2 116 80)) (rz_i (fun xq2 Sq2 => K xq2 Sq2))) ∧ (¬ 10000 ≤ S.2 116 81 → rz_ev mM_get [.ref 116, .int (S.2 116 80)] S (rz_i (fun xq3 Sq3 => ((xq3 = 0 → K 0 (rz_uI (rz_uI Sq3 116 81 ((Sq3.2 116 81) + 7)) 116 82 (S.2 116 80))) ∧ (¬ xq3 = 0 → rz_ev mM_step [.ref 116, .int xq3] (rz_uI Sq3 116 80 (((Sq3.2 116 80) + 1) &&& 2047)) (rz_i (fun xq5 Sq5 => ((xq5 = 0 → rz_ev mM_fault [.ref 116, .int 28, .int 1, .int 0] (rz_uI (rz_uI Sq5 116 80 (S.2 116 80)) 116 82 (S.2 116 80)) (rz_i (fun xq7 Sq7 => K xq7 Sq7))) ∧ (¬ xq5 = 0 → rz mM_runs 38 [(0, .ref 116)] [] (rz_uI Sq5 116 80 ((Sq5.2 116 80) &&& 2047)) (rz_i K)))))))))))) : rz mM_runs 38 [(0, .ref 116)] [] S (rz_i K) := by
  refine rz_pure (pc' := 39) d_M_runs_38 rfl ?_
  refine rz_getiv (v := S.2 116 81) d_M_runs_39 f_12_641 rfl rfl rfl ?_
  refine rz_sipush (v := 10000) d_M_runs_42 (by decide) ?_
  refine rz_icmpge (tgt := 140) d_M_runs_45 rfl (fun b1 => ?_) (fun b1 => ?_)
  · skip
    refine rz_pure (pc' := 141) d_M_runs_140 rfl ?_
    refine rz_pure (pc' := 142) d_M_runs_141 rfl ?_
    refine rz_getiv (v := S.2 116 80) d_M_runs_142 f_12_644 rfl rfl rfl ?_
    refine rz_puti d_M_runs_145 f_12_647 rfl rfl rfl ?_
    refine rz_pure (pc' := 149) d_M_runs_148 rfl ?_
    refine rz_bipush (v := 28) d_M_runs_149 (by decide) ?_
    refine rz_iconst (v := 2) d_M_runs_151 (by decide) ?_
    refine rz_iconst (v := 0) d_M_runs_152 (by decide) ?_
    refine rz_callVi (t := [.int 0, .int 2, .int 28]) d_M_runs_153 w_12_113 rfl rfl rfl (w.1 b1) (fun xq2 Sq2 q2 => ?_)
    exact rz_ireti d_M_runs_156 rfl rfl q2
  · skip
    refine rz_pure (pc' := 49) d_M_runs_48 rfl ?_
    refine rz_getiv (v := S.2 116 80) d_M_runs_49 f_12_644 rfl rfl rfl ?_
    refine rz_pure (pc' := 53) (l' := [(2, .int (S.2 116 80)), (0, .ref 116)]) d_M_runs_52 rfl ?_
    refine rz_pure (pc' := 54) d_M_runs_53 rfl ?_
    refine rz_pure (pc' := 55) d_M_runs_54 rfl ?_
    refine rz_getiv (v := S.2 116 80) d_M_runs_55 f_12_644 rfl rfl rfl ?_
    refine rz_callVi (t := [.int (S.2 116 80)]) d_M_runs_58 w_12_620 rfl rfl rfl (w.2 b1) (fun xq3 Sq3 q3 => ?_)
    refine rz_pure (pc' := 62) (l' := [(3, .int xq3), (2, .int (S.2 116 80)), (0, .ref 116)]) d_M_runs_61 rfl ?_
    refine rz_pure (pc' := 63) d_M_runs_62 rfl ?_
    refine rz_ifne (tgt := 84) d_M_runs_63 rfl (fun b4 => ?_) (fun b4 => ?_)
    · skip
      refine rz_pure (pc' := 85) d_M_runs_84 rfl ?_
      refine rz_pure (pc' := 86) d_M_runs_85 rfl ?_
      refine rz_getiv (v := Sq3.2 116 80) d_M_runs_86 f_12_644 rfl rfl rfl ?_
      refine rz_iconst (v := 1) d_M_runs_89 (by decide) ?_
      refine rz_iadd d_M_runs_90 ?_
      refine rz_sipush (v := 2047) d_M_runs_91 (by decide) ?_
      refine rz_iand d_M_runs_94 ?_
      refine rz_puti d_M_runs_95 f_12_644 rfl rfl rfl ?_
      refine rz_pure (pc' := 99) d_M_runs_98 rfl ?_
      refine rz_pure (pc' := 100) d_M_runs_99 rfl ?_
      refine rz_callVi (t := [.int xq3]) d_M_runs_100 w_12_650 rfl rfl rfl (q3.2 b4) (fun xq5 Sq5 q5 => ?_)
      refine rz_ifne (tgt := 125) d_M_runs_103 rfl (fun b6 => ?_) (fun b6 => ?_)
      · skip
        refine rz_pure (pc' := 126) d_M_runs_125 rfl ?_
        refine rz_pure (pc' := 127) d_M_runs_126 rfl ?_
        refine rz_getiv (v := Sq5.2 116 80) d_M_runs_127 f_12_644 rfl rfl rfl ?_
        refine rz_sipush (v := 2047) d_M_runs_130 (by decide) ?_
        refine rz_iand d_M_runs_133 ?_
        refine rz_puti d_M_runs_134 f_12_644 rfl rfl rfl ?_
        refine rz_pure (pc' := 38) d_M_runs_137 rfl ?_
        exact rz_pick (ks := [0]) (l := [(0, .ref 116)]) rfl rfl (by decide) rfl (q5.2 b6)
      · skip
        refine rz_pure (pc' := 107) d_M_runs_106 rfl ?_
        refine rz_pure (pc' := 108) d_M_runs_107 rfl ?_
        refine rz_puti d_M_runs_108 f_12_644 rfl rfl rfl ?_
        refine rz_pure (pc' := 112) d_M_runs_111 rfl ?_
        refine rz_pure (pc' := 113) d_M_runs_112 rfl ?_
        refine rz_puti d_M_runs_113 f_12_647 rfl rfl rfl ?_
        refine rz_pure (pc' := 117) d_M_runs_116 rfl ?_
        refine rz_bipush (v := 28) d_M_runs_117 (by decide) ?_
        refine rz_iconst (v := 1) d_M_runs_119 (by decide) ?_
        refine rz_iconst (v := 0) d_M_runs_120 (by decide) ?_
        refine rz_callVi (t := [.int 0, .int 1, .int 28]) d_M_runs_121 w_12_113 rfl rfl rfl (q5.1 b6) (fun xq7 Sq7 q7 => ?_)
        exact rz_ireti d_M_runs_124 rfl rfl q7
    · skip
      refine rz_pure (pc' := 67) d_M_runs_66 rfl ?_
      refine rz_pure (pc' := 68) d_M_runs_67 rfl ?_
      refine rz_getiv (v := Sq3.2 116 81) d_M_runs_68 f_12_641 rfl rfl rfl ?_
      refine rz_bipush (v := 7) d_M_runs_71 (by decide) ?_
      refine rz_iadd d_M_runs_73 ?_
      refine rz_puti d_M_runs_74 f_12_641 rfl rfl rfl ?_
      refine rz_pure (pc' := 78) d_M_runs_77 rfl ?_
      refine rz_pure (pc' := 79) d_M_runs_78 rfl ?_
      refine rz_puti d_M_runs_79 f_12_647 rfl rfl rfl ?_
      refine rz_iconst (v := 0) d_M_runs_82 (by decide) ?_
      exact rz_ireti d_M_runs_83 rfl rfl (q3.1 b4)
theorem d_M_byteNext_0 : decode (rm_code mM_byteNext) 0 = .ok (.aload_n 0, 1) := by decide +kernel
theorem d_M_byteNext_1 : decode (rm_code mM_byteNext) 1 = .ok (.aload_n 0, 1) := by decide +kernel
theorem d_M_byteNext_2 : decode (rm_code mM_byteNext) 2 = .ok (.getfield 644, 3) := by decide +kernel
theorem d_M_byteNext_5 : decode (rm_code mM_byteNext) 5 = .ok (.invokevirtual 620, 3) := by decide +kernel
theorem d_M_byteNext_8 : decode (rm_code mM_byteNext) 8 = .ok (.istore_n 1, 1) := by decide +kernel
theorem d_M_byteNext_9 : decode (rm_code mM_byteNext) 9 = .ok (.aload_n 0, 1) := by decide +kernel
theorem d_M_byteNext_10 : decode (rm_code mM_byteNext) 10 = .ok (.aload_n 0, 1) := by decide +kernel
theorem d_M_byteNext_11 : decode (rm_code mM_byteNext) 11 = .ok (.getfield 644, 3) := by decide +kernel
theorem d_M_byteNext_14 : decode (rm_code mM_byteNext) 14 = .ok (.iconst 1, 1) := by decide +kernel
theorem d_M_byteNext_15 : decode (rm_code mM_byteNext) 15 = .ok (.iadd, 1) := by decide +kernel
theorem d_M_byteNext_16 : decode (rm_code mM_byteNext) 16 = .ok (.sipush (2047), 3) := by decide +kernel
theorem d_M_byteNext_19 : decode (rm_code mM_byteNext) 19 = .ok (.iand, 1) := by decide +kernel
theorem d_M_byteNext_20 : decode (rm_code mM_byteNext) 20 = .ok (.putfield 644, 3) := by decide +kernel
theorem d_M_byteNext_23 : decode (rm_code mM_byteNext) 23 = .ok (.iload_n 1, 1) := by decide +kernel
theorem d_M_byteNext_24 : decode (rm_code mM_byteNext) 24 = .ok (.ireturn, 1) := by decide +kernel
theorem p_M_byteNext_0 {S : rz_S} {K : Int32 → rz_S → Prop} (w : rz_ev mM_get [.ref 116, .int (S.2 116 80)] S (rz_i (fun xq1 Sq1 => K xq1 (rz_uI Sq1 116 80 (((Sq1.2 116 80) + 1) &&& 2047))))) : rz mM_byteNext 0 [(0, .ref 116)] [] S (rz_i K) := by
  refine rz_pure (pc' := 1) d_M_byteNext_0 rfl ?_
  refine rz_pure (pc' := 2) d_M_byteNext_1 rfl ?_
  refine rz_getiv (v := S.2 116 80) d_M_byteNext_2 f_12_644 rfl rfl rfl ?_
  refine rz_callVi (t := [.int (S.2 116 80)]) d_M_byteNext_5 w_12_620 rfl rfl rfl w (fun xq1 Sq1 q1 => ?_)
  refine rz_pure (pc' := 9) (l' := [(1, .int xq1), (0, .ref 116)]) d_M_byteNext_8 rfl ?_
  refine rz_pure (pc' := 10) d_M_byteNext_9 rfl ?_
  refine rz_pure (pc' := 11) d_M_byteNext_10 rfl ?_
  refine rz_getiv (v := Sq1.2 116 80) d_M_byteNext_11 f_12_644 rfl rfl rfl ?_
  refine rz_iconst (v := 1) d_M_byteNext_14 (by decide) ?_
  refine rz_iadd d_M_byteNext_15 ?_
  refine rz_sipush (v := 2047) d_M_byteNext_16 (by decide) ?_
  refine rz_iand d_M_byteNext_19 ?_
  refine rz_puti d_M_byteNext_20 f_12_644 rfl rfl rfl ?_
  refine rz_pure (pc' := 24) d_M_byteNext_23 rfl ?_
  exact rz_ireti d_M_byteNext_24 rfl rfl q1
