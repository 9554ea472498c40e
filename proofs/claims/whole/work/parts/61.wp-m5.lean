/-! what each block of the code asks (printed by wpgen.py) -/
theorem p_M_out_0 {S : rz_S} {K : Int32 → rz_S → Prop} {a1 : Int32} (w : ((a1 < 0 → K (-1) S) ∧ (¬ a1 < 0 → ((S.2 116 67 ≤ a1 → K (-1) S) ∧ (¬ S.2 116 67 ≤ a1 → rx_in a1 300 = true ∧ K (S.1 152 a1.toNatClampNeg) S))))) : rz mM_out 0 [(0, .ref 116), (1, .int a1)] [] S (rz_i K) := by
  refine rz_pure (pc' := 1) d_M_out_0 rfl ?_
  refine rz_iflt (tgt := 21) d_M_out_1 rfl (fun b1 => ?_) (fun b1 => ?_)
  · skip
    refine rz_iconst (v := -1) d_M_out_21 (by decide) ?_
    exact rz_ireti d_M_out_22 rfl rfl (w.1 b1)
  · skip
    refine rz_pure (pc' := 5) d_M_out_4 rfl ?_
    refine rz_pure (pc' := 6) d_M_out_5 rfl ?_
    refine rz_getiv (v := S.2 116 67) d_M_out_6 f_12_371 rfl rfl rfl ?_
    refine rz_icmpge (tgt := 21) d_M_out_9 rfl (fun b2 => ?_) (fun b2 => ?_)
    · skip
      refine rz_iconst (v := -1) d_M_out_21 (by decide) ?_
      exact rz_ireti d_M_out_22 rfl rfl ((w.2 b1).1 b2)
    · skip
      refine rz_pure (pc' := 13) d_M_out_12 rfl ?_
      refine rz_getr d_M_out_13 f_12_368 rfl rfl ?_
      refine rz_pure (pc' := 17) d_M_out_16 rfl ?_
      refine rz_ialdv (F := S.1 152) (i := a1.toNatClampNeg) d_M_out_17 rfl ((w.2 b1).2 b2).1 rfl rfl ?_
      refine rz_pure (pc' := 22) d_M_out_18 rfl ?_
      exact rz_ireti d_M_out_22 rfl rfl ((w.2 b1).2 b2).2
theorem d_M_write_0 : decode (rm_code mM_write) 0 = .ok (.iload_n 1, 1) := by decide +kernel
theorem d_M_write_1 : decode (rm_code mM_write) 1 = .ok (.ifCond .lt (21), 3) := by decide +kernel
theorem d_M_write_4 : decode (rm_code mM_write) 4 = .ok (.iload_n 1, 1) := by decide +kernel
theorem d_M_write_5 : decode (rm_code mM_write) 5 = .ok (.bipush (15), 2) := by decide +kernel
theorem d_M_write_7 : decode (rm_code mM_write) 7 = .ok (.if_icmp .gt (15), 3) := by decide +kernel
theorem d_M_write_10 : decode (rm_code mM_write) 10 = .ok (.iload_n 2, 1) := by decide +kernel
theorem d_M_write_11 : decode (rm_code mM_write) 11 = .ok (.ifCond .lt (11), 3) := by decide +kernel
theorem d_M_write_14 : decode (rm_code mM_write) 14 = .ok (.iload_n 2, 1) := by decide +kernel
theorem d_M_write_15 : decode (rm_code mM_write) 15 = .ok (.aload_n 0, 1) := by decide +kernel
theorem d_M_write_16 : decode (rm_code mM_write) 16 = .ok (.getfield 254, 3) := by decide +kernel
theorem d_M_write_19 : decode (rm_code mM_write) 19 = .ok (.if_icmp .le (5), 3) := by decide +kernel
theorem d_M_write_22 : decode (rm_code mM_write) 22 = .ok (.iconst (-1), 1) := by decide +kernel
theorem d_M_write_23 : decode (rm_code mM_write) 23 = .ok (.ireturn, 1) := by decide +kernel
theorem d_M_write_24 : decode (rm_code mM_write) 24 = .ok (.aload_n 0, 1) := by decide +kernel
theorem d_M_write_25 : decode (rm_code mM_write) 25 = .ok (.iload_n 2, 1) := by decide +kernel
theorem d_M_write_26 : decode (rm_code mM_write) 26 = .ok (.invokevirtual 263, 3) := by decide +kernel
theorem d_M_write_29 : decode (rm_code mM_write) 29 = .ok (.iload_n 1, 1) := by decide +kernel
theorem d_M_write_30 : decode (rm_code mM_write) 30 = .ok (.bipush (15), 2) := by decide +kernel
theorem d_M_write_32 : decode (rm_code mM_write) 32 = .ok (.if_icmp .ne (9), 3) := by decide +kernel
theorem d_M_write_35 : decode (rm_code mM_write) 35 = .ok (.aload_n 0, 1) := by decide +kernel
theorem d_M_write_36 : decode (rm_code mM_write) 36 = .ok (.iload_n 2, 1) := by decide +kernel
theorem d_M_write_37 : decode (rm_code mM_write) 37 = .ok (.invokevirtual 266, 3) := by decide +kernel
theorem d_M_write_40 : decode (rm_code mM_write) 40 = .ok (.ireturn, 1) := by decide +kernel
theorem d_M_write_41 : decode (rm_code mM_write) 41 = .ok (.iload_n 2, 1) := by decide +kernel
theorem d_M_write_42 : decode (rm_code mM_write) 42 = .ok (.ifCond .ne (8), 3) := by decide +kernel
theorem d_M_write_45 : decode (rm_code mM_write) 45 = .ok (.aload_n 0, 1) := by decide +kernel
theorem d_M_write_46 : decode (rm_code mM_write) 46 = .ok (.getfield 227, 3) := by decide +kernel
theorem d_M_write_49 : decode (rm_code mM_write) 49 = .ok (.ireturn, 1) := by decide +kernel
theorem d_M_write_50 : decode (rm_code mM_write) 50 = .ok (.aload_n 0, 1) := by decide +kernel
theorem d_M_write_51 : decode (rm_code mM_write) 51 = .ok (.invokevirtual 269, 3) := by decide +kernel
theorem d_M_write_54 : decode (rm_code mM_write) 54 = .ok (.aload_n 0, 1) := by decide +kernel
theorem d_M_write_55 : decode (rm_code mM_write) 55 = .ok (.getfield 248, 3) := by decide +kernel
theorem d_M_write_58 : decode (rm_code mM_write) 58 = .ok (.iload_n 1, 1) := by decide +kernel
theorem d_M_write_59 : decode (rm_code mM_write) 59 = .ok (.iaload, 1) := by decide +kernel
theorem d_M_write_60 : decode (rm_code mM_write) 60 = .ok (.iconst 4, 1) := by decide +kernel
theorem d_M_write_61 : decode (rm_code mM_write) 61 = .ok (.if_icmp .ne (60), 3) := by decide +kernel
theorem d_M_write_64 : decode (rm_code mM_write) 64 = .ok (.iconst 0, 1) := by decide +kernel
theorem d_M_write_65 : decode (rm_code mM_write) 65 = .ok (.istore_n 3, 1) := by decide +kernel
theorem d_M_write_66 : decode (rm_code mM_write) 66 = .ok (.iload_n 3, 1) := by decide +kernel
theorem d_M_write_67 : decode (rm_code mM_write) 67 = .ok (.iload_n 2, 1) := by decide +kernel
theorem d_M_write_68 : decode (rm_code mM_write) 68 = .ok (.if_icmp .ge (48), 3) := by decide +kernel
theorem d_M_write_71 : decode (rm_code mM_write) 71 = .ok (.aload_n 0, 1) := by decide +kernel
theorem d_M_write_72 : decode (rm_code mM_write) 72 = .ok (.getfield 284, 3) := by decide +kernel
theorem d_M_write_75 : decode (rm_code mM_write) 75 = .ok (.bipush (64), 2) := by decide +kernel
theorem d_M_write_77 : decode (rm_code mM_write) 77 = .ok (.iload_n 1, 1) := by decide +kernel
theorem d_M_write_78 : decode (rm_code mM_write) 78 = .ok (.imul, 1) := by decide +kernel
theorem d_M_write_79 : decode (rm_code mM_write) 79 = .ok (.aload_n 0, 1) := by decide +kernel
theorem d_M_write_80 : decode (rm_code mM_write) 80 = .ok (.getfield 287, 3) := by decide +kernel
theorem d_M_write_83 : decode (rm_code mM_write) 83 = .ok (.iload_n 1, 1) := by decide +kernel
theorem d_M_write_84 : decode (rm_code mM_write) 84 = .ok (.iaload, 1) := by decide +kernel
theorem d_M_write_85 : decode (rm_code mM_write) 85 = .ok (.iadd, 1) := by decide +kernel
theorem d_M_write_86 : decode (rm_code mM_write) 86 = .ok (.aload_n 0, 1) := by decide +kernel
theorem d_M_write_87 : decode (rm_code mM_write) 87 = .ok (.getfield 260, 3) := by decide +kernel
theorem d_M_write_90 : decode (rm_code mM_write) 90 = .ok (.iload_n 3, 1) := by decide +kernel
theorem d_M_write_91 : decode (rm_code mM_write) 91 = .ok (.iaload, 1) := by decide +kernel
theorem d_M_write_92 : decode (rm_code mM_write) 92 = .ok (.iastore, 1) := by decide +kernel
theorem d_M_write_93 : decode (rm_code mM_write) 93 = .ok (.aload_n 0, 1) := by decide +kernel
theorem d_M_write_94 : decode (rm_code mM_write) 94 = .ok (.getfield 287, 3) := by decide +kernel
theorem d_M_write_97 : decode (rm_code mM_write) 97 = .ok (.iload_n 1, 1) := by decide +kernel
theorem d_M_write_98 : decode (rm_code mM_write) 98 = .ok (.aload_n 0, 1) := by decide +kernel
theorem d_M_write_99 : decode (rm_code mM_write) 99 = .ok (.getfield 287, 3) := by decide +kernel
theorem d_M_write_102 : decode (rm_code mM_write) 102 = .ok (.iload_n 1, 1) := by decide +kernel
theorem d_M_write_103 : decode (rm_code mM_write) 103 = .ok (.iaload, 1) := by decide +kernel
theorem d_M_write_104 : decode (rm_code mM_write) 104 = .ok (.iconst 1, 1) := by decide +kernel
theorem d_M_write_105 : decode (rm_code mM_write) 105 = .ok (.iadd, 1) := by decide +kernel
theorem d_M_write_106 : decode (rm_code mM_write) 106 = .ok (.bipush (63), 2) := by decide +kernel
theorem d_M_write_108 : decode (rm_code mM_write) 108 = .ok (.iand, 1) := by decide +kernel
theorem d_M_write_109 : decode (rm_code mM_write) 109 = .ok (.iastore, 1) := by decide +kernel
theorem d_M_write_110 : decode (rm_code mM_write) 110 = .ok (.iinc 3 (1), 3) := by decide +kernel
theorem d_M_write_113 : decode (rm_code mM_write) 113 = .ok (.goto (-47), 3) := by decide +kernel
theorem d_M_write_116 : decode (rm_code mM_write) 116 = .ok (.aload_n 0, 1) := by decide +kernel
theorem d_M_write_117 : decode (rm_code mM_write) 117 = .ok (.getfield 227, 3) := by decide +kernel
theorem d_M_write_120 : decode (rm_code mM_write) 120 = .ok (.ireturn, 1) := by decide +kernel
theorem d_M_write_121 : decode (rm_code mM_write) 121 = .ok (.aload_n 0, 1) := by decide +kernel
theorem d_M_write_122 : decode (rm_code mM_write) 122 = .ok (.getfield 248, 3) := by decide +kernel
theorem d_M_write_125 : decode (rm_code mM_write) 125 = .ok (.iload_n 1, 1) := by decide +kernel
theorem d_M_write_126 : decode (rm_code mM_write) 126 = .ok (.iaload, 1) := by decide +kernel
theorem d_M_write_127 : decode (rm_code mM_write) 127 = .ok (.iconst 2, 1) := by decide +kernel
theorem d_M_write_128 : decode (rm_code mM_write) 128 = .ok (.if_icmp .eq (16), 3) := by decide +kernel
theorem d_M_write_131 : decode (rm_code mM_write) 131 = .ok (.aload_n 0, 1) := by decide +kernel
theorem d_M_write_132 : decode (rm_code mM_write) 132 = .ok (.aload_n 0, 1) := by decide +kernel
theorem d_M_write_133 : decode (rm_code mM_write) 133 = .ok (.bipush (61), 2) := by decide +kernel
theorem d_M_write_135 : decode (rm_code mM_write) 135 = .ok (.iconst 0, 1) := by decide +kernel
theorem d_M_write_136 : decode (rm_code mM_write) 136 = .ok (.iconst 0, 1) := by decide +kernel
theorem d_M_write_137 : decode (rm_code mM_write) 137 = .ok (.invokevirtual 113, 3) := by decide +kernel
theorem d_M_write_140 : decode (rm_code mM_write) 140 = .ok (.invokevirtual 272, 3) := by decide +kernel
theorem d_M_write_143 : decode (rm_code mM_write) 143 = .ok (.ireturn, 1) := by decide +kernel
theorem d_M_write_144 : decode (rm_code mM_write) 144 = .ok (.iconst 0, 1) := by decide +kernel
theorem d_M_write_145 : decode (rm_code mM_write) 145 = .ok (.istore_n 3, 1) := by decide +kernel
theorem d_M_write_146 : decode (rm_code mM_write) 146 = .ok (.iconst 0, 1) := by decide +kernel
theorem d_M_write_147 : decode (rm_code mM_write) 147 = .ok (.istore 4, 2) := by decide +kernel
theorem d_M_write_149 : decode (rm_code mM_write) 149 = .ok (.iload 4, 2) := by decide +kernel
theorem d_M_write_151 : decode (rm_code mM_write) 151 = .ok (.iload_n 2, 1) := by decide +kernel
theorem d_M_write_152 : decode (rm_code mM_write) 152 = .ok (.if_icmp .ge (26), 3) := by decide +kernel
theorem d_M_write_155 : decode (rm_code mM_write) 155 = .ok (.iload_n 3, 1) := by decide +kernel
theorem d_M_write_156 : decode (rm_code mM_write) 156 = .ok (.ifCond .ne (22), 3) := by decide +kernel
theorem d_M_write_159 : decode (rm_code mM_write) 159 = .ok (.aload_n 0, 1) := by decide +kernel
theorem d_M_write_160 : decode (rm_code mM_write) 160 = .ok (.iload_n 1, 1) := by decide +kernel
theorem d_M_write_161 : decode (rm_code mM_write) 161 = .ok (.aload_n 0, 1) := by decide +kernel
theorem d_M_write_162 : decode (rm_code mM_write) 162 = .ok (.getfield 260, 3) := by decide +kernel
theorem d_M_write_165 : decode (rm_code mM_write) 165 = .ok (.iload 4, 2) := by decide +kernel
theorem d_M_write_167 : decode (rm_code mM_write) 167 = .ok (.iaload, 1) := by decide +kernel
theorem d_M_write_168 : decode (rm_code mM_write) 168 = .ok (.invokevirtual 525, 3) := by decide +kernel
theorem d_M_write_171 : decode (rm_code mM_write) 171 = .ok (.istore_n 3, 1) := by decide +kernel
theorem d_M_write_172 : decode (rm_code mM_write) 172 = .ok (.iinc 4 (1), 3) := by decide +kernel
theorem d_M_write_175 : decode (rm_code mM_write) 175 = .ok (.goto (-26), 3) := by decide +kernel
theorem d_M_write_178 : decode (rm_code mM_write) 178 = .ok (.aload_n 0, 1) := by decide +kernel
theorem d_M_write_179 : decode (rm_code mM_write) 179 = .ok (.iload_n 3, 1) := by decide +kernel
theorem d_M_write_180 : decode (rm_code mM_write) 180 = .ok (.invokevirtual 272, 3) := by decide +kernel
theorem d_M_write_183 : decode (rm_code mM_write) 183 = .ok (.ireturn, 1) := by decide +kernel
theorem p_M_write_0 {S : rz_S} {K : Int32 → rz_S → Prop} {a1 : Int32} {a2 : Int32} (w : ((a1 < 0 → K (-1) S) ∧ (¬ a1 < 0 → ((15 < a1 → K (-1) S) ∧ (¬ 15 < a1 → ((a2 < 0 → K (-1) S) ∧ (¬ a2 < 0 → ((a2 ≤ S.2 116 64 → rz_ev mM_sends [.ref 116, .int a2] S (rz_v (fun Sq5 => ((a1 = 15 → rz_ev mM_commands [.ref 116, .int a2] Sq5 (rz_i (fun xq13 Sq13 => K xq13 Sq13))) ∧ (¬ a1 = 15 → ((a2 = 0 → K (Sq5.2 116 56) Sq5) ∧ (¬ a2 = 0 → rz_ev mM_begins [.ref 116] Sq5 (rz_v (fun Sq8 => rx_in a1 15 = true ∧ ((Sq8.1 126 a1.toNatClampNeg = 4 → rz mM_write 66 [(0, .ref 116), (1, .int a1), (2, .int a2), (3, .int 0)] [] Sq8 (rz_i K)) ∧ (¬ Sq8.1 126 a1.toNatClampNeg = 4 → ((Sq8.1 126 a1.toNatClampNeg = 2 → rz mM_write 149 [(0, .ref 116), (1, .int a1), (2, .int a2), (3, .int 0), (4, .int 0)] [] Sq8 (rz_i K)) ∧ (¬ Sq8.1 126 a1.toNatClampNeg = 2 → rz_ev mM_fault [.ref 116, .int 61, .int 0, .int 0] Sq8 (rz_i (fun xq11 Sq11 => rz_ev mM_ends [.ref 116, .int xq11] Sq11 (rz_i (fun xq12 Sq12 => K xq12 Sq12))))))))))))))))) ∧ (¬ a2 ≤ S.2 116 64 → K (-1) S))))))))) : rz mM_write 0 [(0, .ref 116), (1, .int a1), (2, .int a2)] [] S (rz_i K) := by
  refine rz_pure (pc' := 1) d_M_write_0 rfl ?_
  refine rz_iflt (tgt := 22) d_M_write_1 rfl (fun b1 => ?_) (fun b1 => ?_)
  · skip
    refine rz_iconst (v := -1) d_M_write_22 (by decide) ?_
    exact rz_ireti d_M_write_23 rfl rfl (w.1 b1)
  · skip
    refine rz_pure (pc' := 5) d_M_write_4 rfl ?_
    refine rz_bipush (v := 15) d_M_write_5 (by decide) ?_
    refine rz_icmpgt (tgt := 22) d_M_write_7 rfl (fun b2 => ?_) (fun b2 => ?_)
    · skip
      refine rz_iconst (v := -1) d_M_write_22 (by decide) ?_
      exact rz_ireti d_M_write_23 rfl rfl ((w.2 b1).1 b2)
    · skip
      refine rz_pure (pc' := 11) d_M_write_10 rfl ?_
      refine rz_iflt (tgt := 22) d_M_write_11 rfl (fun b3 => ?_) (fun b3 => ?_)
      · skip
        refine rz_iconst (v := -1) d_M_write_22 (by decide) ?_
        exact rz_ireti d_M_write_23 rfl rfl (((w.2 b1).2 b2).1 b3)
      · skip
        refine rz_pure (pc' := 15) d_M_write_14 rfl ?_
        refine rz_pure (pc' := 16) d_M_write_15 rfl ?_
        refine rz_getiv (v := S.2 116 64) d_M_write_16 f_12_254 rfl rfl rfl ?_
        refine rz_icmple (tgt := 24) d_M_write_19 rfl (fun b4 => ?_) (fun b4 => ?_)
        · skip
          refine rz_pure (pc' := 25) d_M_write_24 rfl ?_
          refine rz_pure (pc' := 26) d_M_write_25 rfl ?_
          refine rz_callVv (t := [.int a2]) d_M_write_26 w_12_263 rfl rfl rfl ((((w.2 b1).2 b2).2 b3).1 b4) (fun Sq5 q5 => ?_)
          refine rz_pure (pc' := 30) d_M_write_29 rfl ?_
          refine rz_bipush (v := 15) d_M_write_30 (by decide) ?_
          refine rz_icmpne (tgt := 41) d_M_write_32 rfl (fun b6 => ?_) (fun b6 => ?_)
          · skip
            refine rz_pure (pc' := 42) d_M_write_41 rfl ?_
            refine rz_ifne (tgt := 50) d_M_write_42 rfl (fun b7 => ?_) (fun b7 => ?_)
            · skip
              refine rz_pure (pc' := 51) d_M_write_50 rfl ?_
              refine rz_callVv (t := []) d_M_write_51 w_12_269 rfl rfl rfl ((q5.2 b6).2 b7) (fun Sq8 q8 => ?_)
              refine rz_pure (pc' := 55) d_M_write_54 rfl ?_
              refine rz_getr d_M_write_55 f_12_248 rfl rfl ?_
              refine rz_pure (pc' := 59) d_M_write_58 rfl ?_
              refine rz_ialdv (F := Sq8.1 126) (i := a1.toNatClampNeg) d_M_write_59 rfl q8.1 rfl rfl ?_
              refine rz_iconst (v := 4) d_M_write_60 (by decide) ?_
              refine rz_icmpne (tgt := 121) d_M_write_61 rfl (fun b9 => ?_) (fun b9 => ?_)
              · skip
                refine rz_pure (pc' := 122) d_M_write_121 rfl ?_
                refine rz_getr d_M_write_122 f_12_248 rfl rfl ?_
                refine rz_pure (pc' := 126) d_M_write_125 rfl ?_
                refine rz_ialdv (F := Sq8.1 126) (i := a1.toNatClampNeg) d_M_write_126 rfl q8.1 rfl rfl ?_
                refine rz_iconst (v := 2) d_M_write_127 (by decide) ?_
                refine rz_icmpeq (tgt := 144) d_M_write_128 rfl (fun b10 => ?_) (fun b10 => ?_)
                · skip
                  refine rz_iconst (v := 0) d_M_write_144 (by decide) ?_
                  refine rz_pure (pc' := 146) (l' := [(3, .int 0), (0, .ref 116), (1, .int a1), (2, .int a2)]) d_M_write_145 rfl ?_
                  refine rz_iconst (v := 0) d_M_write_146 (by decide) ?_
                  refine rz_pure (pc' := 149) (l' := [(4, .int 0), (3, .int 0), (0, .ref 116), (1, .int a1), (2, .int a2)]) d_M_write_147 rfl ?_
                  exact rz_pick (ks := [0, 1, 2, 3, 4]) (l := [(0, .ref 116), (1, .int a1), (2, .int a2), (3, .int 0), (4, .int 0)]) rfl rfl (by decide) rfl ((q8.2.2 b9).1 b10)
                · skip
                  refine rz_pure (pc' := 132) d_M_write_131 rfl ?_
                  refine rz_pure (pc' := 133) d_M_write_132 rfl ?_
                  refine rz_bipush (v := 61) d_M_write_133 (by decide) ?_
                  refine rz_iconst (v := 0) d_M_write_135 (by decide) ?_
                  refine rz_iconst (v := 0) d_M_write_136 (by decide) ?_
                  refine rz_callVi (t := [.int 0, .int 0, .int 61]) d_M_write_137 w_12_113 rfl rfl rfl ((q8.2.2 b9).2 b10) (fun xq11 Sq11 q11 => ?_)
                  refine rz_callVi (t := [.int xq11]) d_M_write_140 w_12_272 rfl rfl rfl q11 (fun xq12 Sq12 q12 => ?_)
                  exact rz_ireti d_M_write_143 rfl rfl q12
              · skip
                refine rz_iconst (v := 0) d_M_write_64 (by decide) ?_
                refine rz_pure (pc' := 66) (l' := [(3, .int 0), (0, .ref 116), (1, .int a1), (2, .int a2)]) d_M_write_65 rfl ?_
                exact rz_pick (ks := [0, 1, 2, 3]) (l := [(0, .ref 116), (1, .int a1), (2, .int a2), (3, .int 0)]) rfl rfl (by decide) rfl (q8.2.1 b9)
            · skip
              refine rz_pure (pc' := 46) d_M_write_45 rfl ?_
              refine rz_getiv (v := Sq5.2 116 56) d_M_write_46 f_12_227 rfl rfl rfl ?_
              exact rz_ireti d_M_write_49 rfl rfl ((q5.2 b6).1 b7)
          · skip
            refine rz_pure (pc' := 36) d_M_write_35 rfl ?_
            refine rz_pure (pc' := 37) d_M_write_36 rfl ?_
            refine rz_callVi (t := [.int a2]) d_M_write_37 w_12_266 rfl rfl rfl (q5.1 b6) (fun xq13 Sq13 q13 => ?_)
            exact rz_ireti d_M_write_40 rfl rfl q13
        · skip
          refine rz_iconst (v := -1) d_M_write_22 (by decide) ?_
          exact rz_ireti d_M_write_23 rfl rfl ((((w.2 b1).2 b2).2 b3).2 b4)
theorem p_M_write_149 {S : rz_S} {K : Int32 → rz_S → Prop} {a1 : Int32} {a2 : Int32} {a3 : Int32} {a4 : Int32} (w : ((a2 ≤ a4 → rz mM_write 178 [(0, .ref 116), (3, .int a3)] [] S (rz_i K)) ∧ (¬ a2 ≤ a4 → ((a3 = 0 → rx_in a4 401 = true ∧ rz_ev mM_writesByte [.ref 116, .int a1, .int (S.1 151 a4.toNatClampNeg)] S (rz_i (fun xq3 Sq3 => rz mM_write 149 [(0, .ref 116), (1, .int a1), (2, .int a2), (3, .int xq3), (4, .int (a4 + 1))] [] Sq3 (rz_i K)))) ∧ (¬ a3 = 0 → rz mM_write 178 [(0, .ref 116), (3, .int a3)] [] S (rz_i K)))))) : rz mM_write 149 [(0, .ref 116), (1, .int a1), (2, .int a2), (3, .int a3), (4, .int a4)] [] S (rz_i K) := by
  refine rz_pure (pc' := 151) d_M_write_149 rfl ?_
  refine rz_pure (pc' := 152) d_M_write_151 rfl ?_
  refine rz_icmpge (tgt := 178) d_M_write_152 rfl (fun b1 => ?_) (fun b1 => ?_)
  · skip
    exact rz_pick (ks := [0, 3]) (l := [(0, .ref 116), (3, .int a3)]) rfl rfl (by decide) rfl (w.1 b1)
  · skip
    refine rz_pure (pc' := 156) d_M_write_155 rfl ?_
    refine rz_ifne (tgt := 178) d_M_write_156 rfl (fun b2 => ?_) (fun b2 => ?_)
    · skip
      exact rz_pick (ks := [0, 3]) (l := [(0, .ref 116), (3, .int a3)]) rfl rfl (by decide) rfl ((w.2 b1).2 b2)
    · skip
      refine rz_pure (pc' := 160) d_M_write_159 rfl ?_
      refine rz_pure (pc' := 161) d_M_write_160 rfl ?_
      refine rz_pure (pc' := 162) d_M_write_161 rfl ?_
      refine rz_getr d_M_write_162 f_12_260 rfl rfl ?_
      refine rz_pure (pc' := 167) d_M_write_165 rfl ?_
      refine rz_ialdv (F := S.1 151) (i := a4.toNatClampNeg) d_M_write_167 rfl ((w.2 b1).1 b2).1 rfl rfl ?_
      refine rz_callVi (t := [.int (S.1 151 a4.toNatClampNeg), .int a1]) d_M_write_168 w_12_525 rfl rfl rfl ((w.2 b1).1 b2).2 (fun xq3 Sq3 q3 => ?_)
      refine rz_pure (pc' := 172) (l' := [(3, .int xq3), (0, .ref 116), (1, .int a1), (2, .int a2), (4, .int a4)]) d_M_write_171 rfl ?_
      refine rz_pure (pc' := 175) (l' := [(4, .int (a4 + 1)), (3, .int xq3), (0, .ref 116), (1, .int a1), (2, .int a2)]) d_M_write_172 rfl ?_
      refine rz_pure (pc' := 149) d_M_write_175 rfl ?_
      exact rz_pick (ks := [0, 1, 2, 3, 4]) (l := [(0, .ref 116), (1, .int a1), (2, .int a2), (3, .int xq3), (4, .int (a4 + 1))]) rfl rfl (by decide) rfl q3
theorem p_M_write_66 {S : rz_S} {K : Int32 → rz_S → Prop} {a1 : Int32} {a2 : Int32} {a3 : Int32} (w : ((a2 ≤ a3 → K (S.2 116 56) S) ∧ (¬ a2 ≤ a3 → rx_in a1 15 = true ∧ rx_in a3 401 = true ∧ rx_in ((64 * a1) + (S.1 128 a1.toNatClampNeg)) 960 = true ∧ rz mM_write 66 [(0, .ref 116), (1, .int a1), (2, .int a2), (3, .int (a3 + 1))] [] (rz_fA (rz_fA S 127 (upd (S.1 127) (((64 * a1) + (S.1 128 a1.toNatClampNeg)).toNatClampNeg) (S.1 151 a3.toNatClampNeg))) 128 (upd (S.1 128) a1.toNatClampNeg (((S.1 128 a1.toNatClampNeg) + 1) &&& 63))) (rz_i K)))) : rz mM_write 66 [(0, .ref 116), (1, .int a1), (2, .int a2), (3, .int a3)] [] S (rz_i K) := by
  refine rz_pure (pc' := 67) d_M_write_66 rfl ?_
  refine rz_pure (pc' := 68) d_M_write_67 rfl ?_
  refine rz_icmpge (tgt := 116) d_M_write_68 rfl (fun b1 => ?_) (fun b1 => ?_)
  · skip
    refine rz_pure (pc' := 117) d_M_write_116 rfl ?_
    refine rz_getiv (v := S.2 116 56) d_M_write_117 f_12_227 rfl rfl rfl ?_
    exact rz_ireti d_M_write_120 rfl rfl (w.1 b1)
  · skip
    refine rz_pure (pc' := 72) d_M_write_71 rfl ?_
    refine rz_getr d_M_write_72 f_12_284 rfl rfl ?_
    refine rz_bipush (v := 64) d_M_write_75 (by decide) ?_
    refine rz_pure (pc' := 78) d_M_write_77 rfl ?_
    refine rz_imul d_M_write_78 ?_
    refine rz_pure (pc' := 80) d_M_write_79 rfl ?_
    refine rz_getr d_M_write_80 f_12_287 rfl rfl ?_
    refine rz_pure (pc' := 84) d_M_write_83 rfl ?_
    refine rz_ialdv (F := S.1 128) (i := a1.toNatClampNeg) d_M_write_84 rfl (w.2 b1).1 rfl rfl ?_
    refine rz_iadd d_M_write_85 ?_
    refine rz_pure (pc' := 87) d_M_write_86 rfl ?_
    refine rz_getr d_M_write_87 f_12_260 rfl rfl ?_
    refine rz_pure (pc' := 91) d_M_write_90 rfl ?_
    refine rz_ialdv (F := S.1 151) (i := a3.toNatClampNeg) d_M_write_91 rfl (w.2 b1).2.1 rfl rfl ?_
    refine rz_iastv (F := S.1 127) (i := ((64 * a1) + (S.1 128 a1.toNatClampNeg)).toNatClampNeg) d_M_write_92 rfl (w.2 b1).2.2.1 rfl rfl ?_
    refine rz_pure (pc' := 94) d_M_write_93 rfl ?_
    refine rz_getr d_M_write_94 f_12_287 rfl rfl ?_
    refine rz_pure (pc' := 98) d_M_write_97 rfl ?_
    refine rz_pure (pc' := 99) d_M_write_98 rfl ?_
    refine rz_getr d_M_write_99 f_12_287 rfl rfl ?_
    refine rz_pure (pc' := 103) d_M_write_102 rfl ?_
    refine rz_ialdv (F := S.1 128) (i := a1.toNatClampNeg) d_M_write_103 rfl (w.2 b1).1 ((rz_fA_n (by omega)).trans rfl) rfl ?_
    refine rz_iconst (v := 1) d_M_write_104 (by decide) ?_
    refine rz_iadd d_M_write_105 ?_
    refine rz_bipush (v := 63) d_M_write_106 (by decide) ?_
    refine rz_iand d_M_write_108 ?_
    refine rz_iastv (F := S.1 128) (i := a1.toNatClampNeg) d_M_write_109 rfl (w.2 b1).1 ((rz_fA_n (by omega)).trans rfl) rfl ?_
    refine rz_pure (pc' := 113) (l' := [(3, .int (a3 + 1)), (0, .ref 116), (1, .int a1), (2, .int a2)]) d_M_write_110 rfl ?_
    refine rz_pure (pc' := 66) d_M_write_113 rfl ?_
    exact rz_pick (ks := [0, 1, 2, 3]) (l := [(0, .ref 116), (1, .int a1), (2, .int a2), (3, .int (a3 + 1))]) rfl rfl (by decide) rfl (w.2 b1).2.2.2
theorem p_M_write_178 {S : rz_S} {K : Int32 → rz_S → Prop} {a3 : Int32} (w : rz_ev mM_ends [.ref 116, .int a3] S (rz_i (fun xq1 Sq1 => K xq1 Sq1))) : rz mM_write 178 [(0, .ref 116), (3, .int a3)] [] S (rz_i K) := by
  refine rz_pure (pc' := 179) d_M_write_178 rfl ?_
  refine rz_pure (pc' := 180) d_M_write_179 rfl ?_
  refine rz_callVi (t := [.int a3]) d_M_write_180 w_12_272 rfl rfl rfl w (fun xq1 Sq1 q1 => ?_)
  exact rz_ireti d_M_write_183 rfl rfl q1
theorem d_M_writesByte_0 : decode (rm_code mM_writesByte) 0 = .ok (.aload_n 0, 1) := by decide +kernel
theorem d_M_writesByte_1 : decode (rm_code mM_writesByte) 1 = .ok (.getfield 322, 3) := by decide +kernel
theorem d_M_writesByte_4 : decode (rm_code mM_writesByte) 4 = .ok (.iload_n 1, 1) := by decide +kernel
theorem d_M_writesByte_5 : decode (rm_code mM_writesByte) 5 = .ok (.iaload, 1) := by decide +kernel
theorem d_M_writesByte_6 : decode (rm_code mM_writesByte) 6 = .ok (.bipush (62), 2) := by decide +kernel
theorem d_M_writesByte_8 : decode (rm_code mM_writesByte) 8 = .ok (.if_icmp .ne (22), 3) := by decide +kernel
theorem d_M_writesByte_11 : decode (rm_code mM_writesByte) 11 = .ok (.aload_n 0, 1) := by decide +kernel
theorem d_M_writesByte_12 : decode (rm_code mM_writesByte) 12 = .ok (.iload_n 1, 1) := by decide +kernel
theorem d_M_writesByte_13 : decode (rm_code mM_writesByte) 13 = .ok (.invokevirtual 528, 3) := by decide +kernel
theorem d_M_writesByte_16 : decode (rm_code mM_writesByte) 16 = .ok (.istore_n 3, 1) := by decide +kernel
theorem d_M_writesByte_17 : decode (rm_code mM_writesByte) 17 = .ok (.iload_n 3, 1) := by decide +kernel
theorem d_M_writesByte_18 : decode (rm_code mM_writesByte) 18 = .ok (.ifCond .eq (12), 3) := by decide +kernel
theorem d_M_writesByte_21 : decode (rm_code mM_writesByte) 21 = .ok (.aload_n 0, 1) := by decide +kernel
theorem d_M_writesByte_22 : decode (rm_code mM_writesByte) 22 = .ok (.getfield 248, 3) := by decide +kernel
theorem d_M_writesByte_25 : decode (rm_code mM_writesByte) 25 = .ok (.iload_n 1, 1) := by decide +kernel
theorem d_M_writesByte_26 : decode (rm_code mM_writesByte) 26 = .ok (.iconst 0, 1) := by decide +kernel
theorem d_M_writesByte_27 : decode (rm_code mM_writesByte) 27 = .ok (.iastore, 1) := by decide +kernel
theorem d_M_writesByte_28 : decode (rm_code mM_writesByte) 28 = .ok (.iload_n 3, 1) := by decide +kernel
theorem d_M_writesByte_29 : decode (rm_code mM_writesByte) 29 = .ok (.ireturn, 1) := by decide +kernel
theorem d_M_writesByte_30 : decode (rm_code mM_writesByte) 30 = .ok (.aload_n 0, 1) := by decide +kernel
theorem d_M_writesByte_31 : decode (rm_code mM_writesByte) 31 = .ok (.getfield 284, 3) := by decide +kernel
theorem d_M_writesByte_34 : decode (rm_code mM_writesByte) 34 = .ok (.bipush (64), 2) := by decide +kernel
theorem d_M_writesByte_36 : decode (rm_code mM_writesByte) 36 = .ok (.iload_n 1, 1) := by decide +kernel
theorem d_M_writesByte_37 : decode (rm_code mM_writesByte) 37 = .ok (.imul, 1) := by decide +kernel
theorem d_M_writesByte_38 : decode (rm_code mM_writesByte) 38 = .ok (.iconst 2, 1) := by decide +kernel
theorem d_M_writesByte_39 : decode (rm_code mM_writesByte) 39 = .ok (.iadd, 1) := by decide +kernel
theorem d_M_writesByte_40 : decode (rm_code mM_writesByte) 40 = .ok (.aload_n 0, 1) := by decide +kernel
theorem d_M_writesByte_41 : decode (rm_code mM_writesByte) 41 = .ok (.getfield 322, 3) := by decide +kernel
theorem d_M_writesByte_44 : decode (rm_code mM_writesByte) 44 = .ok (.iload_n 1, 1) := by decide +kernel
theorem d_M_writesByte_45 : decode (rm_code mM_writesByte) 45 = .ok (.iaload, 1) := by decide +kernel
theorem d_M_writesByte_46 : decode (rm_code mM_writesByte) 46 = .ok (.iadd, 1) := by decide +kernel
theorem d_M_writesByte_47 : decode (rm_code mM_writesByte) 47 = .ok (.iload_n 2, 1) := by decide +kernel
theorem d_M_writesByte_48 : decode (rm_code mM_writesByte) 48 = .ok (.iastore, 1) := by decide +kernel
theorem d_M_writesByte_49 : decode (rm_code mM_writesByte) 49 = .ok (.aload_n 0, 1) := by decide +kernel
theorem d_M_writesByte_50 : decode (rm_code mM_writesByte) 50 = .ok (.getfield 322, 3) := by decide +kernel
theorem d_M_writesByte_53 : decode (rm_code mM_writesByte) 53 = .ok (.iload_n 1, 1) := by decide +kernel
theorem d_M_writesByte_54 : decode (rm_code mM_writesByte) 54 = .ok (.aload_n 0, 1) := by decide +kernel
theorem d_M_writesByte_55 : decode (rm_code mM_writesByte) 55 = .ok (.getfield 322, 3) := by decide +kernel
theorem d_M_writesByte_58 : decode (rm_code mM_writesByte) 58 = .ok (.iload_n 1, 1) := by decide +kernel
theorem d_M_writesByte_59 : decode (rm_code mM_writesByte) 59 = .ok (.iaload, 1) := by decide +kernel
theorem d_M_writesByte_60 : decode (rm_code mM_writesByte) 60 = .ok (.iconst 1, 1) := by decide +kernel
theorem d_M_writesByte_61 : decode (rm_code mM_writesByte) 61 = .ok (.iadd, 1) := by decide +kernel
theorem d_M_writesByte_62 : decode (rm_code mM_writesByte) 62 = .ok (.iastore, 1) := by decide +kernel
theorem d_M_writesByte_63 : decode (rm_code mM_writesByte) 63 = .ok (.iconst 0, 1) := by decide +kernel
theorem d_M_writesByte_64 : decode (rm_code mM_writesByte) 64 = .ok (.ireturn, 1) := by decide +kernel
theorem p_M_writesByte_0 {S : rz_S} {K : Int32 → rz_S → Prop} {a1 : Int32} {a2 : Int32} (w : rx_in a1 15 = true ∧ ((S.1 129 a1.toNatClampNeg = 62 → rz_ev mM_goesOn [.ref 116, .int a1] S (rz_i (fun xq2 Sq2 => ((xq2 = 0 → rz mM_writesByte 30 [(0, .ref 116), (1, .int a1), (2, .int a2)] [] Sq2 (rz_i K)) ∧ (¬ xq2 = 0 → K xq2 (rz_fA Sq2 126 (upd (Sq2.1 126) a1.toNatClampNeg 0))))))) ∧ (¬ S.1 129 a1.toNatClampNeg = 62 → rz mM_writesByte 30 [(0, .ref 116), (1, .int a1), (2, .int a2)] [] S (rz_i K)))) : rz mM_writesByte 0 [(0, .ref 116), (1, .int a1), (2, .int a2)] [] S (rz_i K) := by
  refine rz_pure (pc' := 1) d_M_writesByte_0 rfl ?_
  refine rz_getr d_M_writesByte_1 f_12_322 rfl rfl ?_
  refine rz_pure (pc' := 5) d_M_writesByte_4 rfl ?_
  refine rz_ialdv (F := S.1 129) (i := a1.toNatClampNeg) d_M_writesByte_5 rfl w.1 rfl rfl ?_
  refine rz_bipush (v := 62) d_M_writesByte_6 (by decide) ?_
  refine rz_icmpne (tgt := 30) d_M_writesByte_8 rfl (fun b1 => ?_) (fun b1 => ?_)
  · skip
    exact rz_pick (ks := [0, 1, 2]) (l := [(0, .ref 116), (1, .int a1), (2, .int a2)]) rfl rfl (by decide) rfl (w.2.2 b1)
  · skip
    refine rz_pure (pc' := 12) d_M_writesByte_11 rfl ?_
    refine rz_pure (pc' := 13) d_M_writesByte_12 rfl ?_
    refine rz_callVi (t := [.int a1]) d_M_writesByte_13 w_12_528 rfl rfl rfl (w.2.1 b1) (fun xq2 Sq2 q2 => ?_)
    refine rz_pure (pc' := 17) (l' := [(3, .int xq2), (0, .ref 116), (1, .int a1), (2, .int a2)]) d_M_writesByte_16 rfl ?_
    refine rz_pure (pc' := 18) d_M_writesByte_17 rfl ?_
    refine rz_ifeq (tgt := 30) d_M_writesByte_18 rfl (fun b3 => ?_) (fun b3 => ?_)
    · skip
      exact rz_pick (ks := [0, 1, 2]) (l := [(0, .ref 116), (1, .int a1), (2, .int a2)]) rfl rfl (by decide) rfl (q2.1 b3)
    · skip
      refine rz_pure (pc' := 22) d_M_writesByte_21 rfl ?_
      refine rz_getr d_M_writesByte_22 f_12_248 rfl rfl ?_
      refine rz_pure (pc' := 26) d_M_writesByte_25 rfl ?_
      refine rz_iconst (v := 0) d_M_writesByte_26 (by decide) ?_
      refine rz_iastv (F := Sq2.1 126) (i := a1.toNatClampNeg) d_M_writesByte_27 rfl w.1 rfl rfl ?_
      refine rz_pure (pc' := 29) d_M_writesByte_28 rfl ?_
      exact rz_ireti d_M_writesByte_29 rfl rfl (q2.2 b3)
theorem p_M_writesByte_30 {S : rz_S} {K : Int32 → rz_S → Prop} {a1 : Int32} {a2 : Int32} (w : rx_in a1 15 = true ∧ rx_in (((64 * a1) + 2) + (S.1 129 a1.toNatClampNeg)) 960 = true ∧ K 0 (rz_fA (rz_fA S 127 (upd (S.1 127) ((((64 * a1) + 2) + (S.1 129 a1.toNatClampNeg)).toNatClampNeg) a2)) 129 (upd (S.1 129) a1.toNatClampNeg ((S.1 129 a1.toNatClampNeg) + 1)))) : rz mM_writesByte 30 [(0, .ref 116), (1, .int a1), (2, .int a2)] [] S (rz_i K) := by
  refine rz_pure (pc' := 31) d_M_writesByte_30 rfl ?_
  refine rz_getr d_M_writesByte_31 f_12_284 rfl rfl ?_
  refine rz_bipush (v := 64) d_M_writesByte_34 (by decide) ?_
  refine rz_pure (pc' := 37) d_M_writesByte_36 rfl ?_
  refine rz_imul d_M_writesByte_37 ?_
  refine rz_iconst (v := 2) d_M_writesByte_38 (by decide) ?_
  refine rz_iadd d_M_writesByte_39 ?_
  refine rz_pure (pc' := 41) d_M_writesByte_40 rfl ?_
  refine rz_getr d_M_writesByte_41 f_12_322 rfl rfl ?_
  refine rz_pure (pc' := 45) d_M_writesByte_44 rfl ?_
  refine rz_ialdv (F := S.1 129) (i := a1.toNatClampNeg) d_M_writesByte_45 rfl w.1 rfl rfl ?_
  refine rz_iadd d_M_writesByte_46 ?_
  refine rz_pure (pc' := 48) d_M_writesByte_47 rfl ?_
  refine rz_iastv (F := S.1 127) (i := (((64 * a1) + 2) + (S.1 129 a1.toNatClampNeg)).toNatClampNeg) d_M_writesByte_48 rfl w.2.1 rfl rfl ?_
  refine rz_pure (pc' := 50) d_M_writesByte_49 rfl ?_
  refine rz_getr d_M_writesByte_50 f_12_322 rfl rfl ?_
  refine rz_pure (pc' := 54) d_M_writesByte_53 rfl ?_
  refine rz_pure (pc' := 55) d_M_writesByte_54 rfl ?_
  refine rz_getr d_M_writesByte_55 f_12_322 rfl rfl ?_
  refine rz_pure (pc' := 59) d_M_writesByte_58 rfl ?_
  refine rz_ialdv (F := S.1 129) (i := a1.toNatClampNeg) d_M_writesByte_59 rfl w.1 ((rz_fA_n (by omega)).trans rfl) rfl ?_
  refine rz_iconst (v := 1) d_M_writesByte_60 (by decide) ?_
  refine rz_iadd d_M_writesByte_61 ?_
  refine rz_iastv (F := S.1 129) (i := a1.toNatClampNeg) d_M_writesByte_62 rfl w.1 ((rz_fA_n (by omega)).trans rfl) rfl ?_
  refine rz_iconst (v := 0) d_M_writesByte_63 (by decide) ?_
  exact rz_ireti d_M_writesByte_64 rfl rfl w.2.2
theorem d_M_goesOn_0 : decode (rm_code mM_goesOn) 0 = .ok (.aload_n 0, 1) := by decide +kernel
theorem d_M_goesOn_1 : decode (rm_code mM_goesOn) 1 = .ok (.invokevirtual 180, 3) := by decide +kernel
theorem d_M_goesOn_4 : decode (rm_code mM_goesOn) 4 = .ok (.istore_n 2, 1) := by decide +kernel
theorem d_M_goesOn_5 : decode (rm_code mM_goesOn) 5 = .ok (.iload_n 2, 1) := by decide +kernel
theorem d_M_goesOn_6 : decode (rm_code mM_goesOn) 6 = .ok (.ifCond .eq (5), 3) := by decide +kernel
theorem d_M_goesOn_9 : decode (rm_code mM_goesOn) 9 = .ok (.iload_n 2, 1) := by decide +kernel
theorem d_M_goesOn_10 : decode (rm_code mM_goesOn) 10 = .ok (.ireturn, 1) := by decide +kernel
theorem d_M_goesOn_11 : decode (rm_code mM_goesOn) 11 = .ok (.aload_n 0, 1) := by decide +kernel
theorem d_M_goesOn_12 : decode (rm_code mM_goesOn) 12 = .ok (.aload_n 0, 1) := by decide +kernel
theorem d_M_goesOn_13 : decode (rm_code mM_goesOn) 13 = .ok (.getfield 347, 3) := by decide +kernel
theorem d_M_goesOn_16 : decode (rm_code mM_goesOn) 16 = .ok (.iload_n 1, 1) := by decide +kernel
theorem d_M_goesOn_17 : decode (rm_code mM_goesOn) 17 = .ok (.iaload, 1) := by decide +kernel
theorem d_M_goesOn_18 : decode (rm_code mM_goesOn) 18 = .ok (.aload_n 0, 1) := by decide +kernel
theorem d_M_goesOn_19 : decode (rm_code mM_goesOn) 19 = .ok (.getfield 350, 3) := by decide +kernel
theorem d_M_goesOn_22 : decode (rm_code mM_goesOn) 22 = .ok (.iload_n 1, 1) := by decide +kernel
theorem d_M_goesOn_23 : decode (rm_code mM_goesOn) 23 = .ok (.iaload, 1) := by decide +kernel
theorem d_M_goesOn_24 : decode (rm_code mM_goesOn) 24 = .ok (.invokevirtual 531, 3) := by decide +kernel
theorem d_M_goesOn_27 : decode (rm_code mM_goesOn) 27 = .ok (.ifCond .eq (9), 3) := by decide +kernel
theorem d_M_goesOn_30 : decode (rm_code mM_goesOn) 30 = .ok (.aload_n 0, 1) := by decide +kernel
theorem d_M_goesOn_31 : decode (rm_code mM_goesOn) 31 = .ok (.iload_n 1, 1) := by decide +kernel
theorem d_M_goesOn_32 : decode (rm_code mM_goesOn) 32 = .ok (.invokevirtual 534, 3) := by decide +kernel
theorem d_M_goesOn_35 : decode (rm_code mM_goesOn) 35 = .ok (.ireturn, 1) := by decide +kernel
theorem d_M_goesOn_36 : decode (rm_code mM_goesOn) 36 = .ok (.aload_n 0, 1) := by decide +kernel
theorem d_M_goesOn_37 : decode (rm_code mM_goesOn) 37 = .ok (.getfield 155, 3) := by decide +kernel
theorem d_M_goesOn_40 : decode (rm_code mM_goesOn) 40 = .ok (.istore_n 3, 1) := by decide +kernel
theorem d_M_goesOn_41 : decode (rm_code mM_goesOn) 41 = .ok (.aload_n 0, 1) := by decide +kernel
theorem d_M_goesOn_42 : decode (rm_code mM_goesOn) 42 = .ok (.getfield 158, 3) := by decide +kernel
theorem d_M_goesOn_45 : decode (rm_code mM_goesOn) 45 = .ok (.istore 4, 2) := by decide +kernel
theorem d_M_goesOn_47 : decode (rm_code mM_goesOn) 47 = .ok (.aload_n 0, 1) := by decide +kernel
theorem d_M_goesOn_48 : decode (rm_code mM_goesOn) 48 = .ok (.invokevirtual 189, 3) := by decide +kernel
theorem d_M_goesOn_51 : decode (rm_code mM_goesOn) 51 = .ok (.istore_n 2, 1) := by decide +kernel
theorem d_M_goesOn_52 : decode (rm_code mM_goesOn) 52 = .ok (.iload_n 2, 1) := by decide +kernel
theorem d_M_goesOn_53 : decode (rm_code mM_goesOn) 53 = .ok (.ifCond .eq (5), 3) := by decide +kernel
theorem d_M_goesOn_56 : decode (rm_code mM_goesOn) 56 = .ok (.iload_n 2, 1) := by decide +kernel
theorem d_M_goesOn_57 : decode (rm_code mM_goesOn) 57 = .ok (.ireturn, 1) := by decide +kernel
theorem d_M_goesOn_58 : decode (rm_code mM_goesOn) 58 = .ok (.aload_n 0, 1) := by decide +kernel
theorem d_M_goesOn_59 : decode (rm_code mM_goesOn) 59 = .ok (.getfield 284, 3) := by decide +kernel
theorem d_M_goesOn_62 : decode (rm_code mM_goesOn) 62 = .ok (.bipush (64), 2) := by decide +kernel
theorem d_M_goesOn_64 : decode (rm_code mM_goesOn) 64 = .ok (.iload_n 1, 1) := by decide +kernel
theorem d_M_goesOn_65 : decode (rm_code mM_goesOn) 65 = .ok (.imul, 1) := by decide +kernel
theorem d_M_goesOn_66 : decode (rm_code mM_goesOn) 66 = .ok (.iload_n 3, 1) := by decide +kernel
theorem d_M_goesOn_67 : decode (rm_code mM_goesOn) 67 = .ok (.iastore, 1) := by decide +kernel
theorem d_M_goesOn_68 : decode (rm_code mM_goesOn) 68 = .ok (.aload_n 0, 1) := by decide +kernel
theorem d_M_goesOn_69 : decode (rm_code mM_goesOn) 69 = .ok (.getfield 284, 3) := by decide +kernel
theorem d_M_goesOn_72 : decode (rm_code mM_goesOn) 72 = .ok (.bipush (64), 2) := by decide +kernel
theorem d_M_goesOn_74 : decode (rm_code mM_goesOn) 74 = .ok (.iload_n 1, 1) := by decide +kernel
theorem d_M_goesOn_75 : decode (rm_code mM_goesOn) 75 = .ok (.imul, 1) := by decide +kernel
theorem d_M_goesOn_76 : decode (rm_code mM_goesOn) 76 = .ok (.iconst 1, 1) := by decide +kernel
theorem d_M_goesOn_77 : decode (rm_code mM_goesOn) 77 = .ok (.iadd, 1) := by decide +kernel
theorem d_M_goesOn_78 : decode (rm_code mM_goesOn) 78 = .ok (.iload 4, 2) := by decide +kernel
theorem d_M_goesOn_80 : decode (rm_code mM_goesOn) 80 = .ok (.iastore, 1) := by decide +kernel
theorem d_M_goesOn_81 : decode (rm_code mM_goesOn) 81 = .ok (.aload_n 0, 1) := by decide +kernel
theorem d_M_goesOn_82 : decode (rm_code mM_goesOn) 82 = .ok (.aload_n 0, 1) := by decide +kernel
theorem d_M_goesOn_83 : decode (rm_code mM_goesOn) 83 = .ok (.getfield 347, 3) := by decide +kernel
theorem d_M_goesOn_86 : decode (rm_code mM_goesOn) 86 = .ok (.iload_n 1, 1) := by decide +kernel
theorem d_M_goesOn_87 : decode (rm_code mM_goesOn) 87 = .ok (.iaload, 1) := by decide +kernel
theorem d_M_goesOn_88 : decode (rm_code mM_goesOn) 88 = .ok (.aload_n 0, 1) := by decide +kernel
theorem d_M_goesOn_89 : decode (rm_code mM_goesOn) 89 = .ok (.getfield 350, 3) := by decide +kernel
theorem d_M_goesOn_92 : decode (rm_code mM_goesOn) 92 = .ok (.iload_n 1, 1) := by decide +kernel
theorem d_M_goesOn_93 : decode (rm_code mM_goesOn) 93 = .ok (.iaload, 1) := by decide +kernel
theorem d_M_goesOn_94 : decode (rm_code mM_goesOn) 94 = .ok (.aload_n 0, 1) := by decide +kernel
theorem d_M_goesOn_95 : decode (rm_code mM_goesOn) 95 = .ok (.getfield 284, 3) := by decide +kernel
theorem d_M_goesOn_98 : decode (rm_code mM_goesOn) 98 = .ok (.bipush (64), 2) := by decide +kernel
theorem d_M_goesOn_100 : decode (rm_code mM_goesOn) 100 = .ok (.iload_n 1, 1) := by decide +kernel
theorem d_M_goesOn_101 : decode (rm_code mM_goesOn) 101 = .ok (.imul, 1) := by decide +kernel
theorem d_M_goesOn_102 : decode (rm_code mM_goesOn) 102 = .ok (.invokevirtual 152, 3) := by decide +kernel
theorem d_M_goesOn_105 : decode (rm_code mM_goesOn) 105 = .ok (.istore_n 2, 1) := by decide +kernel
theorem d_M_goesOn_106 : decode (rm_code mM_goesOn) 106 = .ok (.iload_n 2, 1) := by decide +kernel
theorem d_M_goesOn_107 : decode (rm_code mM_goesOn) 107 = .ok (.ifCond .eq (5), 3) := by decide +kernel
theorem d_M_goesOn_110 : decode (rm_code mM_goesOn) 110 = .ok (.iload_n 2, 1) := by decide +kernel
theorem d_M_goesOn_111 : decode (rm_code mM_goesOn) 111 = .ok (.ireturn, 1) := by decide +kernel
theorem d_M_goesOn_112 : decode (rm_code mM_goesOn) 112 = .ok (.aload_n 0, 1) := by decide +kernel
theorem d_M_goesOn_113 : decode (rm_code mM_goesOn) 113 = .ok (.getfield 347, 3) := by decide +kernel
theorem d_M_goesOn_116 : decode (rm_code mM_goesOn) 116 = .ok (.iload_n 1, 1) := by decide +kernel
theorem d_M_goesOn_117 : decode (rm_code mM_goesOn) 117 = .ok (.iload_n 3, 1) := by decide +kernel
theorem d_M_goesOn_118 : decode (rm_code mM_goesOn) 118 = .ok (.iastore, 1) := by decide +kernel
theorem d_M_goesOn_119 : decode (rm_code mM_goesOn) 119 = .ok (.aload_n 0, 1) := by decide +kernel
theorem d_M_goesOn_120 : decode (rm_code mM_goesOn) 120 = .ok (.getfield 350, 3) := by decide +kernel
theorem d_M_goesOn_123 : decode (rm_code mM_goesOn) 123 = .ok (.iload_n 1, 1) := by decide +kernel
theorem d_M_goesOn_124 : decode (rm_code mM_goesOn) 124 = .ok (.iload 4, 2) := by decide +kernel
theorem d_M_goesOn_126 : decode (rm_code mM_goesOn) 126 = .ok (.iastore, 1) := by decide +kernel
theorem d_M_goesOn_127 : decode (rm_code mM_goesOn) 127 = .ok (.aload_n 0, 1) := by decide +kernel
theorem d_M_goesOn_128 : decode (rm_code mM_goesOn) 128 = .ok (.getfield 353, 3) := by decide +kernel
theorem d_M_goesOn_131 : decode (rm_code mM_goesOn) 131 = .ok (.iload_n 1, 1) := by decide +kernel
theorem d_M_goesOn_132 : decode (rm_code mM_goesOn) 132 = .ok (.aload_n 0, 1) := by decide +kernel
theorem d_M_goesOn_133 : decode (rm_code mM_goesOn) 133 = .ok (.getfield 353, 3) := by decide +kernel
theorem d_M_goesOn_136 : decode (rm_code mM_goesOn) 136 = .ok (.iload_n 1, 1) := by decide +kernel
theorem d_M_goesOn_137 : decode (rm_code mM_goesOn) 137 = .ok (.iaload, 1) := by decide +kernel
theorem d_M_goesOn_138 : decode (rm_code mM_goesOn) 138 = .ok (.iconst 1, 1) := by decide +kernel
theorem d_M_goesOn_139 : decode (rm_code mM_goesOn) 139 = .ok (.iadd, 1) := by decide +kernel
theorem d_M_goesOn_140 : decode (rm_code mM_goesOn) 140 = .ok (.iastore, 1) := by decide +kernel
theorem d_M_goesOn_141 : decode (rm_code mM_goesOn) 141 = .ok (.aload_n 0, 1) := by decide +kernel
theorem d_M_goesOn_142 : decode (rm_code mM_goesOn) 142 = .ok (.iload_n 1, 1) := by decide +kernel
theorem d_M_goesOn_143 : decode (rm_code mM_goesOn) 143 = .ok (.invokevirtual 365, 3) := by decide +kernel
theorem d_M_goesOn_146 : decode (rm_code mM_goesOn) 146 = .ok (.iconst 0, 1) := by decide +kernel
theorem d_M_goesOn_147 : decode (rm_code mM_goesOn) 147 = .ok (.ireturn, 1) := by decide +kernel
theorem p_M_goesOn_0 {S : rz_S} {K : Int32 → rz_S → Prop} {a1 : Int32} (w : rz_ev mM_loads [.ref 116] S (rz_i (fun xq1 Sq1 => ((xq1 = 0 → rx_in a1 15 = true ∧ rz_ev mM_takesNext [.ref 116, .int (Sq1.1 133 a1.toNatClampNeg), .int (Sq1.1 134 a1.toNatClampNeg)] Sq1 (rz_i (fun xq3 Sq3 => ((xq3 = 0 → rz_ev mM_stores [.ref 116] Sq3 (rz_i (fun xq5 Sq5 => ((xq5 = 0 → rx_in (64 * a1) 960 = true ∧ rx_in ((64 * a1) + 1) 960 = true ∧ rz_ev mM_writeBlock [.ref 116, .int (Sq5.1 133 a1.toNatClampNeg), .int (Sq5.1 134 a1.toNatClampNeg), .ref 127, .int (64 * a1)] (rz_fA (rz_fA Sq5 127 (upd (Sq5.1 127) ((64 * a1).toNatClampNeg) (Sq3.2 116 25))) 127 (upd (upd (Sq5.1 127) ((64 * a1).toNatClampNeg) (Sq3.2 116 25)) (((64 * a1) + 1).toNatClampNeg) (Sq3.2 116 26))) (rz_i (fun xq7 Sq7 => ((xq7 = 0 → rz_ev mM_clears [.ref 116, .int a1] (rz_fA (rz_fA (rz_fA Sq7 133 (upd (Sq7.1 133) a1.toNatClampNeg (Sq3.2 116 25))) 134 (upd (Sq7.1 134) a1.toNatClampNeg (Sq3.2 116 26))) 135 (upd (Sq7.1 135) a1.toNatClampNeg ((Sq7.1 135 a1.toNatClampNeg) + 1))) (rz_v (fun Sq9 => K 0 Sq9))) ∧ (¬ xq7 = 0 → K xq7 Sq7))))) ∧ (¬ xq5 = 0 → K xq5 Sq5))))) ∧ (¬ xq3 = 0 → rz_ev mM_isFull [.ref 116, .int a1] Sq3 (rz_i (fun xq10 Sq10 => K xq10 Sq10))))))) ∧ (¬ xq1 = 0 → K xq1 Sq1))))) : rz mM_goesOn 0 [(0, .ref 116), (1, .int a1)] [] S (rz_i K) := by
  refine rz_pure (pc' := 1) d_M_goesOn_0 rfl ?_
  refine rz_callVi (t := []) d_M_goesOn_1 w_12_180 rfl rfl rfl w (fun xq1 Sq1 q1 => ?_)
  refine rz_pure (pc' := 5) (l' := [(2, .int xq1), (0, .ref 116), (1, .int a1)]) d_M_goesOn_4 rfl ?_
  refine rz_pure (pc' := 6) d_M_goesOn_5 rfl ?_
  refine rz_ifeq (tgt := 11) d_M_goesOn_6 rfl (fun b2 => ?_) (fun b2 => ?_)
  · skip
    refine rz_pure (pc' := 12) d_M_goesOn_11 rfl ?_
    refine rz_pure (pc' := 13) d_M_goesOn_12 rfl ?_
    refine rz_getr d_M_goesOn_13 f_12_347 rfl rfl ?_
    refine rz_pure (pc' := 17) d_M_goesOn_16 rfl ?_
    refine rz_ialdv (F := Sq1.1 133) (i := a1.toNatClampNeg) d_M_goesOn_17 rfl (q1.1 b2).1 rfl rfl ?_
    refine rz_pure (pc' := 19) d_M_goesOn_18 rfl ?_
    refine rz_getr d_M_goesOn_19 f_12_350 rfl rfl ?_
    refine rz_pure (pc' := 23) d_M_goesOn_22 rfl ?_
    refine rz_ialdv (F := Sq1.1 134) (i := a1.toNatClampNeg) d_M_goesOn_23 rfl (q1.1 b2).1 rfl rfl ?_
    refine rz_callVi (t := [.int (Sq1.1 134 a1.toNatClampNeg), .int (Sq1.1 133 a1.toNatClampNeg)]) d_M_goesOn_24 w_12_531 rfl rfl rfl (q1.1 b2).2 (fun xq3 Sq3 q3 => ?_)
    refine rz_ifeq (tgt := 36) d_M_goesOn_27 rfl (fun b4 => ?_) (fun b4 => ?_)
    · skip
      refine rz_pure (pc' := 37) d_M_goesOn_36 rfl ?_
      refine rz_getiv (v := Sq3.2 116 25) d_M_goesOn_37 f_12_155 rfl rfl rfl ?_
      refine rz_pure (pc' := 41) (l' := [(3, .int (Sq3.2 116 25)), (2, .int xq1), (0, .ref 116), (1, .int a1)]) d_M_goesOn_40 rfl ?_
      refine rz_pure (pc' := 42) d_M_goesOn_41 rfl ?_
      refine rz_getiv (v := Sq3.2 116 26) d_M_goesOn_42 f_12_158 rfl rfl rfl ?_
      refine rz_pure (pc' := 47) (l' := [(4, .int (Sq3.2 116 26)), (3, .int (Sq3.2 116 25)), (2, .int xq1), (0, .ref 116), (1, .int a1)]) d_M_goesOn_45 rfl ?_
      refine rz_pure (pc' := 48) d_M_goesOn_47 rfl ?_
      refine rz_callVi (t := []) d_M_goesOn_48 w_12_189 rfl rfl rfl (q3.1 b4) (fun xq5 Sq5 q5 => ?_)
      refine rz_pure (pc' := 52) (l' := [(2, .int xq5), (4, .int (Sq3.2 116 26)), (3, .int (Sq3.2 116 25)), (0, .ref 116), (1, .int a1)]) d_M_goesOn_51 rfl ?_
      refine rz_pure (pc' := 53) d_M_goesOn_52 rfl ?_
      refine rz_ifeq (tgt := 58) d_M_goesOn_53 rfl (fun b6 => ?_) (fun b6 => ?_)
      · skip
        refine rz_pure (pc' := 59) d_M_goesOn_58 rfl ?_
        refine rz_getr d_M_goesOn_59 f_12_284 rfl rfl ?_
        refine rz_bipush (v := 64) d_M_goesOn_62 (by decide) ?_
        refine rz_pure (pc' := 65) d_M_goesOn_64 rfl ?_
        refine rz_imul d_M_goesOn_65 ?_
        refine rz_pure (pc' := 67) d_M_goesOn_66 rfl ?_
        refine rz_iastv (F := Sq5.1 127) (i := (64 * a1).toNatClampNeg) d_M_goesOn_67 rfl (q5.1 b6).1 rfl rfl ?_
        refine rz_pure (pc' := 69) d_M_goesOn_68 rfl ?_
        refine rz_getr d_M_goesOn_69 f_12_284 rfl rfl ?_
        refine rz_bipush (v := 64) d_M_goesOn_72 (by decide) ?_
        refine rz_pure (pc' := 75) d_M_goesOn_74 rfl ?_
        refine rz_imul d_M_goesOn_75 ?_
        refine rz_iconst (v := 1) d_M_goesOn_76 (by decide) ?_
        refine rz_iadd d_M_goesOn_77 ?_
        refine rz_pure (pc' := 80) d_M_goesOn_78 rfl ?_
        refine rz_iastv (F := upd (Sq5.1 127) ((64 * a1).toNatClampNeg) (Sq3.2 116 25)) (i := ((64 * a1) + 1).toNatClampNeg) d_M_goesOn_80 rfl (q5.1 b6).2.1 rz_fA_s rfl ?_
        refine rz_pure (pc' := 82) d_M_goesOn_81 rfl ?_
        refine rz_pure (pc' := 83) d_M_goesOn_82 rfl ?_
        refine rz_getr d_M_goesOn_83 f_12_347 rfl rfl ?_
        refine rz_pure (pc' := 87) d_M_goesOn_86 rfl ?_
        refine rz_ialdv (F := Sq5.1 133) (i := a1.toNatClampNeg) d_M_goesOn_87 rfl (q1.1 b2).1 ((rz_fA_n (by omega)).trans ((rz_fA_n (by omega)).trans rfl)) rfl ?_
        refine rz_pure (pc' := 89) d_M_goesOn_88 rfl ?_
        refine rz_getr d_M_goesOn_89 f_12_350 rfl rfl ?_
        refine rz_pure (pc' := 93) d_M_goesOn_92 rfl ?_
        refine rz_ialdv (F := Sq5.1 134) (i := a1.toNatClampNeg) d_M_goesOn_93 rfl (q1.1 b2).1 ((rz_fA_n (by omega)).trans ((rz_fA_n (by omega)).trans rfl)) rfl ?_
        refine rz_pure (pc' := 95) d_M_goesOn_94 rfl ?_
        refine rz_getr d_M_goesOn_95 f_12_284 rfl rfl ?_
        refine rz_bipush (v := 64) d_M_goesOn_98 (by decide) ?_
        refine rz_pure (pc' := 101) d_M_goesOn_100 rfl ?_
        refine rz_imul d_M_goesOn_101 ?_
        refine rz_callVi (t := [.int (64 * a1), .ref 127, .int (Sq5.1 134 a1.toNatClampNeg), .int (Sq5.1 133 a1.toNatClampNeg)]) d_M_goesOn_102 w_12_152 rfl rfl rfl (q5.1 b6).2.2 (fun xq7 Sq7 q7 => ?_)
        refine rz_pure (pc' := 106) (l' := [(2, .int xq7), (4, .int (Sq3.2 116 26)), (3, .int (Sq3.2 116 25)), (0, .ref 116), (1, .int a1)]) d_M_goesOn_105 rfl ?_
        refine rz_pure (pc' := 107) d_M_goesOn_106 rfl ?_
        refine rz_ifeq (tgt := 112) d_M_goesOn_107 rfl (fun b8 => ?_) (fun b8 => ?_)
        · skip
          refine rz_pure (pc' := 113) d_M_goesOn_112 rfl ?_
          refine rz_getr d_M_goesOn_113 f_12_347 rfl rfl ?_
          refine rz_pure (pc' := 117) d_M_goesOn_116 rfl ?_
          refine rz_pure (pc' := 118) d_M_goesOn_117 rfl ?_
          refine rz_iastv (F := Sq7.1 133) (i := a1.toNatClampNeg) d_M_goesOn_118 rfl (q1.1 b2).1 rfl rfl ?_
          refine rz_pure (pc' := 120) d_M_goesOn_119 rfl ?_
          refine rz_getr d_M_goesOn_120 f_12_350 rfl rfl ?_
          refine rz_pure (pc' := 124) d_M_goesOn_123 rfl ?_
          refine rz_pure (pc' := 126) d_M_goesOn_124 rfl ?_
          refine rz_iastv (F := Sq7.1 134) (i := a1.toNatClampNeg) d_M_goesOn_126 rfl (q1.1 b2).1 ((rz_fA_n (by omega)).trans rfl) rfl ?_
          refine rz_pure (pc' := 128) d_M_goesOn_127 rfl ?_
          refine rz_getr d_M_goesOn_128 f_12_353 rfl rfl ?_
          refine rz_pure (pc' := 132) d_M_goesOn_131 rfl ?_
          refine rz_pure (pc' := 133) d_M_goesOn_132 rfl ?_
          refine rz_getr d_M_goesOn_133 f_12_353 rfl rfl ?_
          refine rz_pure (pc' := 137) d_M_goesOn_136 rfl ?_
          refine rz_ialdv (F := Sq7.1 135) (i := a1.toNatClampNeg) d_M_goesOn_137 rfl (q1.1 b2).1 ((rz_fA_n (by omega)).trans ((rz_fA_n (by omega)).trans rfl)) rfl ?_
          refine rz_iconst (v := 1) d_M_goesOn_138 (by decide) ?_
          refine rz_iadd d_M_goesOn_139 ?_
          refine rz_iastv (F := Sq7.1 135) (i := a1.toNatClampNeg) d_M_goesOn_140 rfl (q1.1 b2).1 ((rz_fA_n (by omega)).trans ((rz_fA_n (by omega)).trans rfl)) rfl ?_
          refine rz_pure (pc' := 142) d_M_goesOn_141 rfl ?_
          refine rz_pure (pc' := 143) d_M_goesOn_142 rfl ?_
          refine rz_callVv (t := [.int a1]) d_M_goesOn_143 w_12_365 rfl rfl rfl (q7.1 b8) (fun Sq9 q9 => ?_)
          refine rz_iconst (v := 0) d_M_goesOn_146 (by decide) ?_
          exact rz_ireti d_M_goesOn_147 rfl rfl q9
        · skip
          refine rz_pure (pc' := 111) d_M_goesOn_110 rfl ?_
          exact rz_ireti d_M_goesOn_111 rfl rfl (q7.2 b8)
      · skip
        refine rz_pure (pc' := 57) d_M_goesOn_56 rfl ?_
        exact rz_ireti d_M_goesOn_57 rfl rfl (q5.2 b6)
    · skip
      refine rz_pure (pc' := 31) d_M_goesOn_30 rfl ?_
      refine rz_pure (pc' := 32) d_M_goesOn_31 rfl ?_
      refine rz_callVi (t := [.int a1]) d_M_goesOn_32 w_12_534 rfl rfl rfl (q3.2 b4) (fun xq10 Sq10 q10 => ?_)
      exact rz_ireti d_M_goesOn_35 rfl rfl q10
  · skip
    refine rz_pure (pc' := 10) d_M_goesOn_9 rfl ?_
    exact rz_ireti d_M_goesOn_10 rfl rfl (q1.2 b2)
theorem d_M_isFull_0 : decode (rm_code mM_isFull) 0 = .ok (.aload_n 0, 1) := by decide +kernel
theorem d_M_isFull_1 : decode (rm_code mM_isFull) 1 = .ok (.getfield 341, 3) := by decide +kernel
theorem d_M_isFull_4 : decode (rm_code mM_isFull) 4 = .ok (.iload_n 1, 1) := by decide +kernel
theorem d_M_isFull_5 : decode (rm_code mM_isFull) 5 = .ok (.iaload, 1) := by decide +kernel
theorem d_M_isFull_6 : decode (rm_code mM_isFull) 6 = .ok (.istore_n 2, 1) := by decide +kernel
theorem d_M_isFull_7 : decode (rm_code mM_isFull) 7 = .ok (.aload_n 0, 1) := by decide +kernel
theorem d_M_isFull_8 : decode (rm_code mM_isFull) 8 = .ok (.getfield 344, 3) := by decide +kernel
theorem d_M_isFull_11 : decode (rm_code mM_isFull) 11 = .ok (.iload_n 1, 1) := by decide +kernel
theorem d_M_isFull_12 : decode (rm_code mM_isFull) 12 = .ok (.iaload, 1) := by decide +kernel
theorem d_M_isFull_13 : decode (rm_code mM_isFull) 13 = .ok (.istore_n 3, 1) := by decide +kernel
theorem d_M_isFull_14 : decode (rm_code mM_isFull) 14 = .ok (.iconst 0, 1) := by decide +kernel
theorem d_M_isFull_15 : decode (rm_code mM_isFull) 15 = .ok (.istore 4, 2) := by decide +kernel
theorem d_M_isFull_17 : decode (rm_code mM_isFull) 17 = .ok (.iload_n 2, 1) := by decide +kernel
theorem d_M_isFull_18 : decode (rm_code mM_isFull) 18 = .ok (.aload_n 0, 1) := by decide +kernel
theorem d_M_isFull_19 : decode (rm_code mM_isFull) 19 = .ok (.getfield 347, 3) := by decide +kernel
theorem d_M_isFull_22 : decode (rm_code mM_isFull) 22 = .ok (.iload_n 1, 1) := by decide +kernel
theorem d_M_isFull_23 : decode (rm_code mM_isFull) 23 = .ok (.iaload, 1) := by decide +kernel
theorem d_M_isFull_24 : decode (rm_code mM_isFull) 24 = .ok (.if_icmp .ne (13), 3) := by decide +kernel
theorem d_M_isFull_27 : decode (rm_code mM_isFull) 27 = .ok (.iload_n 3, 1) := by decide +kernel
theorem d_M_isFull_28 : decode (rm_code mM_isFull) 28 = .ok (.aload_n 0, 1) := by decide +kernel
theorem d_M_isFull_29 : decode (rm_code mM_isFull) 29 = .ok (.getfield 350, 3) := by decide +kernel
theorem d_M_isFull_32 : decode (rm_code mM_isFull) 32 = .ok (.iload_n 1, 1) := by decide +kernel
theorem d_M_isFull_33 : decode (rm_code mM_isFull) 33 = .ok (.iaload, 1) := by decide +kernel
theorem d_M_isFull_34 : decode (rm_code mM_isFull) 34 = .ok (.if_icmp .eq (77), 3) := by decide +kernel
theorem d_M_isFull_37 : decode (rm_code mM_isFull) 37 = .ok (.iload_n 2, 1) := by decide +kernel
theorem d_M_isFull_38 : decode (rm_code mM_isFull) 38 = .ok (.iload_n 3, 1) := by decide +kernel
theorem d_M_isFull_39 : decode (rm_code mM_isFull) 39 = .ok (.invokestatic 161, 3) := by decide +kernel
theorem d_M_isFull_42 : decode (rm_code mM_isFull) 42 = .ok (.ifCond .eq (10), 3) := by decide +kernel
theorem d_M_isFull_45 : decode (rm_code mM_isFull) 45 = .ok (.iload 4, 2) := by decide +kernel
theorem d_M_isFull_47 : decode (rm_code mM_isFull) 47 = .ok (.bipush (72), 2) := by decide +kernel
theorem d_M_isFull_49 : decode (rm_code mM_isFull) 49 = .ok (.if_icmp .ne (12), 3) := by decide +kernel
theorem d_M_isFull_52 : decode (rm_code mM_isFull) 52 = .ok (.aload_n 0, 1) := by decide +kernel
theorem d_M_isFull_53 : decode (rm_code mM_isFull) 53 = .ok (.bipush (71), 2) := by decide +kernel
theorem d_M_isFull_55 : decode (rm_code mM_isFull) 55 = .ok (.iload_n 2, 1) := by decide +kernel
theorem d_M_isFull_56 : decode (rm_code mM_isFull) 56 = .ok (.iload_n 3, 1) := by decide +kernel
theorem d_M_isFull_57 : decode (rm_code mM_isFull) 57 = .ok (.invokevirtual 113, 3) := by decide +kernel
theorem d_M_isFull_60 : decode (rm_code mM_isFull) 60 = .ok (.ireturn, 1) := by decide +kernel
theorem d_M_isFull_61 : decode (rm_code mM_isFull) 61 = .ok (.aload_n 0, 1) := by decide +kernel
theorem d_M_isFull_62 : decode (rm_code mM_isFull) 62 = .ok (.iload_n 2, 1) := by decide +kernel
theorem d_M_isFull_63 : decode (rm_code mM_isFull) 63 = .ok (.iload_n 3, 1) := by decide +kernel
theorem d_M_isFull_64 : decode (rm_code mM_isFull) 64 = .ok (.aload_n 0, 1) := by decide +kernel
theorem d_M_isFull_65 : decode (rm_code mM_isFull) 65 = .ok (.getfield 186, 3) := by decide +kernel
theorem d_M_isFull_68 : decode (rm_code mM_isFull) 68 = .ok (.iconst 0, 1) := by decide +kernel
theorem d_M_isFull_69 : decode (rm_code mM_isFull) 69 = .ok (.invokevirtual 148, 3) := by decide +kernel
theorem d_M_isFull_72 : decode (rm_code mM_isFull) 72 = .ok (.istore 5, 2) := by decide +kernel
theorem d_M_isFull_74 : decode (rm_code mM_isFull) 74 = .ok (.iload 5, 2) := by decide +kernel
theorem d_M_isFull_76 : decode (rm_code mM_isFull) 76 = .ok (.ifCond .eq (6), 3) := by decide +kernel
theorem d_M_isFull_79 : decode (rm_code mM_isFull) 79 = .ok (.iload 5, 2) := by decide +kernel
theorem d_M_isFull_81 : decode (rm_code mM_isFull) 81 = .ok (.ireturn, 1) := by decide +kernel
theorem d_M_isFull_82 : decode (rm_code mM_isFull) 82 = .ok (.aload_n 0, 1) := by decide +kernel
theorem d_M_isFull_83 : decode (rm_code mM_isFull) 83 = .ok (.iload_n 2, 1) := by decide +kernel
theorem d_M_isFull_84 : decode (rm_code mM_isFull) 84 = .ok (.iload_n 3, 1) := by decide +kernel
theorem d_M_isFull_85 : decode (rm_code mM_isFull) 85 = .ok (.invokevirtual 183, 3) := by decide +kernel
theorem d_M_isFull_88 : decode (rm_code mM_isFull) 88 = .ok (.iload 4, 2) := by decide +kernel
theorem d_M_isFull_90 : decode (rm_code mM_isFull) 90 = .ok (.iconst 1, 1) := by decide +kernel
theorem d_M_isFull_91 : decode (rm_code mM_isFull) 91 = .ok (.iadd, 1) := by decide +kernel
theorem d_M_isFull_92 : decode (rm_code mM_isFull) 92 = .ok (.istore 4, 2) := by decide +kernel
theorem d_M_isFull_94 : decode (rm_code mM_isFull) 94 = .ok (.aload_n 0, 1) := by decide +kernel
theorem d_M_isFull_95 : decode (rm_code mM_isFull) 95 = .ok (.getfield 186, 3) := by decide +kernel
theorem d_M_isFull_98 : decode (rm_code mM_isFull) 98 = .ok (.iconst 0, 1) := by decide +kernel
theorem d_M_isFull_99 : decode (rm_code mM_isFull) 99 = .ok (.iaload, 1) := by decide +kernel
theorem d_M_isFull_100 : decode (rm_code mM_isFull) 100 = .ok (.istore_n 2, 1) := by decide +kernel
theorem d_M_isFull_101 : decode (rm_code mM_isFull) 101 = .ok (.aload_n 0, 1) := by decide +kernel
theorem d_M_isFull_102 : decode (rm_code mM_isFull) 102 = .ok (.getfield 186, 3) := by decide +kernel
theorem d_M_isFull_105 : decode (rm_code mM_isFull) 105 = .ok (.iconst 1, 1) := by decide +kernel
theorem d_M_isFull_106 : decode (rm_code mM_isFull) 106 = .ok (.iaload, 1) := by decide +kernel
theorem d_M_isFull_107 : decode (rm_code mM_isFull) 107 = .ok (.istore_n 3, 1) := by decide +kernel
theorem d_M_isFull_108 : decode (rm_code mM_isFull) 108 = .ok (.goto (-91), 3) := by decide +kernel
theorem d_M_isFull_111 : decode (rm_code mM_isFull) 111 = .ok (.aload_n 0, 1) := by decide +kernel
theorem d_M_isFull_112 : decode (rm_code mM_isFull) 112 = .ok (.aload_n 0, 1) := by decide +kernel
theorem d_M_isFull_113 : decode (rm_code mM_isFull) 113 = .ok (.getfield 347, 3) := by decide +kernel
theorem d_M_isFull_116 : decode (rm_code mM_isFull) 116 = .ok (.iload_n 1, 1) := by decide +kernel
theorem d_M_isFull_117 : decode (rm_code mM_isFull) 117 = .ok (.iaload, 1) := by decide +kernel
theorem d_M_isFull_118 : decode (rm_code mM_isFull) 118 = .ok (.aload_n 0, 1) := by decide +kernel
theorem d_M_isFull_119 : decode (rm_code mM_isFull) 119 = .ok (.getfield 350, 3) := by decide +kernel
theorem d_M_isFull_122 : decode (rm_code mM_isFull) 122 = .ok (.iload_n 1, 1) := by decide +kernel
theorem d_M_isFull_123 : decode (rm_code mM_isFull) 123 = .ok (.iaload, 1) := by decide +kernel
theorem d_M_isFull_124 : decode (rm_code mM_isFull) 124 = .ok (.invokevirtual 183, 3) := by decide +kernel
theorem d_M_isFull_127 : decode (rm_code mM_isFull) 127 = .ok (.aload_n 0, 1) := by decide +kernel
theorem d_M_isFull_128 : decode (rm_code mM_isFull) 128 = .ok (.invokevirtual 189, 3) := by decide +kernel
theorem d_M_isFull_131 : decode (rm_code mM_isFull) 131 = .ok (.istore 5, 2) := by decide +kernel
theorem d_M_isFull_133 : decode (rm_code mM_isFull) 133 = .ok (.iload 5, 2) := by decide +kernel
theorem d_M_isFull_135 : decode (rm_code mM_isFull) 135 = .ok (.ifCond .eq (6), 3) := by decide +kernel
theorem d_M_isFull_138 : decode (rm_code mM_isFull) 138 = .ok (.iload 5, 2) := by decide +kernel
theorem d_M_isFull_140 : decode (rm_code mM_isFull) 140 = .ok (.ireturn, 1) := by decide +kernel
theorem d_M_isFull_141 : decode (rm_code mM_isFull) 141 = .ok (.aload_n 0, 1) := by decide +kernel
theorem d_M_isFull_142 : decode (rm_code mM_isFull) 142 = .ok (.aload_n 0, 1) := by decide +kernel
theorem d_M_isFull_143 : decode (rm_code mM_isFull) 143 = .ok (.getfield 356, 3) := by decide +kernel
theorem d_M_isFull_146 : decode (rm_code mM_isFull) 146 = .ok (.iload_n 1, 1) := by decide +kernel
theorem d_M_isFull_147 : decode (rm_code mM_isFull) 147 = .ok (.iaload, 1) := by decide +kernel
theorem d_M_isFull_148 : decode (rm_code mM_isFull) 148 = .ok (.aload_n 0, 1) := by decide +kernel
theorem d_M_isFull_149 : decode (rm_code mM_isFull) 149 = .ok (.getfield 359, 3) := by decide +kernel
theorem d_M_isFull_152 : decode (rm_code mM_isFull) 152 = .ok (.iload_n 1, 1) := by decide +kernel
theorem d_M_isFull_153 : decode (rm_code mM_isFull) 153 = .ok (.iaload, 1) := by decide +kernel
theorem d_M_isFull_154 : decode (rm_code mM_isFull) 154 = .ok (.aload_n 0, 1) := by decide +kernel
theorem d_M_isFull_155 : decode (rm_code mM_isFull) 155 = .ok (.getfield 362, 3) := by decide +kernel
theorem d_M_isFull_158 : decode (rm_code mM_isFull) 158 = .ok (.iload_n 1, 1) := by decide +kernel
theorem d_M_isFull_159 : decode (rm_code mM_isFull) 159 = .ok (.iaload, 1) := by decide +kernel
theorem d_M_isFull_160 : decode (rm_code mM_isFull) 160 = .ok (.iconst 0, 1) := by decide +kernel
theorem d_M_isFull_161 : decode (rm_code mM_isFull) 161 = .ok (.invokevirtual 223, 3) := by decide +kernel
theorem d_M_isFull_164 : decode (rm_code mM_isFull) 164 = .ok (.istore 5, 2) := by decide +kernel
theorem d_M_isFull_166 : decode (rm_code mM_isFull) 166 = .ok (.iload 5, 2) := by decide +kernel
theorem d_M_isFull_168 : decode (rm_code mM_isFull) 168 = .ok (.ifCond .eq (8), 3) := by decide +kernel
theorem d_M_isFull_171 : decode (rm_code mM_isFull) 171 = .ok (.iload 5, 2) := by decide +kernel
theorem d_M_isFull_173 : decode (rm_code mM_isFull) 173 = .ok (.goto (11), 3) := by decide +kernel
theorem d_M_isFull_176 : decode (rm_code mM_isFull) 176 = .ok (.aload_n 0, 1) := by decide +kernel
theorem d_M_isFull_177 : decode (rm_code mM_isFull) 177 = .ok (.bipush (72), 2) := by decide +kernel
theorem d_M_isFull_179 : decode (rm_code mM_isFull) 179 = .ok (.iconst 0, 1) := by decide +kernel
theorem d_M_isFull_180 : decode (rm_code mM_isFull) 180 = .ok (.iconst 0, 1) := by decide +kernel
theorem d_M_isFull_181 : decode (rm_code mM_isFull) 181 = .ok (.invokevirtual 113, 3) := by decide +kernel
theorem d_M_isFull_184 : decode (rm_code mM_isFull) 184 = .ok (.ireturn, 1) := by decide +kernel
theorem p_M_isFull_0 {S : rz_S} {K : Int32 → rz_S → Prop} {a1 : Int32} (w : rx_in a1 15 = true ∧ rz mM_isFull 17 [(0, .ref 116), (1, .int a1), (2, .int (S.1 131 a1.toNatClampNeg)), (3, .int (S.1 132 a1.toNatClampNeg)), (4, .int 0)] [] S (rz_i K)) : rz mM_isFull 0 [(0, .ref 116), (1, .int a1)] [] S (rz_i K) := by
  refine rz_pure (pc' := 1) d_M_isFull_0 rfl ?_
  refine rz_getr d_M_isFull_1 f_12_341 rfl rfl ?_
  refine rz_pure (pc' := 5) d_M_isFull_4 rfl ?_
  refine rz_ialdv (F := S.1 131) (i := a1.toNatClampNeg) d_M_isFull_5 rfl w.1 rfl rfl ?_
  refine rz_pure (pc' := 7) (l' := [(2, .int (S.1 131 a1.toNatClampNeg)), (0, .ref 116), (1, .int a1)]) d_M_isFull_6 rfl ?_
  refine rz_pure (pc' := 8) d_M_isFull_7 rfl ?_
  refine rz_getr d_M_isFull_8 f_12_344 rfl rfl ?_
  refine rz_pure (pc' := 12) d_M_isFull_11 rfl ?_
  refine rz_ialdv (F := S.1 132) (i := a1.toNatClampNeg) d_M_isFull_12 rfl w.1 rfl rfl ?_
  refine rz_pure (pc' := 14) (l' := [(3, .int (S.1 132 a1.toNatClampNeg)), (2, .int (S.1 131 a1.toNatClampNeg)), (0, .ref 116), (1, .int a1)]) d_M_isFull_13 rfl ?_
  refine rz_iconst (v := 0) d_M_isFull_14 (by decide) ?_
  refine rz_pure (pc' := 17) (l' := [(4, .int 0), (3, .int (S.1 132 a1.toNatClampNeg)), (2, .int (S.1 131 a1.toNatClampNeg)), (0, .ref 116), (1, .int a1)]) d_M_isFull_15 rfl ?_
  exact rz_pick (ks := [0, 1, 2, 3, 4]) (l := [(0, .ref 116), (1, .int a1), (2, .int (S.1 131 a1.toNatClampNeg)), (3, .int (S.1 132 a1.toNatClampNeg)), (4, .int 0)]) rfl rfl (by decide) rfl w.2
theorem p_M_isFull_17 {S : rz_S} {K : Int32 → rz_S → Prop} {a1 : Int32} {a2 : Int32} {a3 : Int32} {a4 : Int32} (w : rx_in a1 15 = true ∧ ((a2 = S.1 133 a1.toNatClampNeg → ((a3 = S.1 134 a1.toNatClampNeg → rz_ev mM_givesBack [.ref 116, .int (S.1 133 a1.toNatClampNeg), .int (S.1 134 a1.toNatClampNeg)] S (rz_v (fun Sq3 => rz_ev mM_stores [.ref 116] Sq3 (rz_i (fun xq4 Sq4 => ((xq4 = 0 → rz_ev mM_changesType [.ref 116, .int (Sq4.1 136 a1.toNatClampNeg), .int (Sq4.1 137 a1.toNatClampNeg), .int (Sq4.1 138 a1.toNatClampNeg), .int 0] Sq4 (rz_i (fun xq6 Sq6 => ((xq6 = 0 → rz_ev mM_fault [.ref 116, .int 72, .int 0, .int 0] Sq6 (rz_i (fun xq8 Sq8 => K xq8 Sq8))) ∧ (¬ xq6 = 0 → K xq6 Sq6))))) ∧ (¬ xq4 = 0 → K xq4 Sq4))))))) ∧ (¬ a3 = S.1 134 a1.toNatClampNeg → rz mM_isFull 37 [(0, .ref 116), (1, .int a1), (2, .int a2), (3, .int a3), (4, .int a4)] [] S (rz_i K)))) ∧ (¬ a2 = S.1 133 a1.toNatClampNeg → rz mM_isFull 37 [(0, .ref 116), (1, .int a1), (2, .int a2), (3, .int a3), (4, .int a4)] [] S (rz_i K)))) : rz mM_isFull 17 [(0, .ref 116), (1, .int a1), (2, .int a2), (3, .int a3), (4, .int a4)] [] S (rz_i K) := by
  refine rz_pure (pc' := 18) d_M_isFull_17 rfl ?_
  refine rz_pure (pc' := 19) d_M_isFull_18 rfl ?_
  refine rz_getr d_M_isFull_19 f_12_347 rfl rfl ?_
  refine rz_pure (pc' := 23) d_M_isFull_22 rfl ?_
  refine rz_ialdv (F := S.1 133) (i := a1.toNatClampNeg) d_M_isFull_23 rfl w.1 rfl rfl ?_
  refine rz_icmpne (tgt := 37) d_M_isFull_24 rfl (fun b1 => ?_) (fun b1 => ?_)
  · skip
    exact rz_pick (ks := [0, 1, 2, 3, 4]) (l := [(0, .ref 116), (1, .int a1), (2, .int a2), (3, .int a3), (4, .int a4)]) rfl rfl (by decide) rfl (w.2.2 b1)
  · skip
    refine rz_pure (pc' := 28) d_M_isFull_27 rfl ?_
    refine rz_pure (pc' := 29) d_M_isFull_28 rfl ?_
    refine rz_getr d_M_isFull_29 f_12_350 rfl rfl ?_
    refine rz_pure (pc' := 33) d_M_isFull_32 rfl ?_
    refine rz_ialdv (F := S.1 134) (i := a1.toNatClampNeg) d_M_isFull_33 rfl w.1 rfl rfl ?_
    refine rz_icmpeq (tgt := 111) d_M_isFull_34 rfl (fun b2 => ?_) (fun b2 => ?_)
    · skip
      refine rz_pure (pc' := 112) d_M_isFull_111 rfl ?_
      refine rz_pure (pc' := 113) d_M_isFull_112 rfl ?_
      refine rz_getr d_M_isFull_113 f_12_347 rfl rfl ?_
      refine rz_pure (pc' := 117) d_M_isFull_116 rfl ?_
      refine rz_ialdv (F := S.1 133) (i := a1.toNatClampNeg) d_M_isFull_117 rfl w.1 rfl rfl ?_
      refine rz_pure (pc' := 119) d_M_isFull_118 rfl ?_
      refine rz_getr d_M_isFull_119 f_12_350 rfl rfl ?_
      refine rz_pure (pc' := 123) d_M_isFull_122 rfl ?_
      refine rz_ialdv (F := S.1 134) (i := a1.toNatClampNeg) d_M_isFull_123 rfl w.1 rfl rfl ?_
      refine rz_callVv (t := [.int (S.1 134 a1.toNatClampNeg), .int (S.1 133 a1.toNatClampNeg)]) d_M_isFull_124 w_12_183 rfl rfl rfl ((w.2.1 b1).1 b2) (fun Sq3 q3 => ?_)
      refine rz_pure (pc' := 128) d_M_isFull_127 rfl ?_
      refine rz_callVi (t := []) d_M_isFull_128 w_12_189 rfl rfl rfl q3 (fun xq4 Sq4 q4 => ?_)
      refine rz_pure (pc' := 133) (l' := [(5, .int xq4), (0, .ref 116), (1, .int a1), (2, .int a2), (3, .int a3), (4, .int a4)]) d_M_isFull_131 rfl ?_
      refine rz_pure (pc' := 135) d_M_isFull_133 rfl ?_
      refine rz_ifeq (tgt := 141) d_M_isFull_135 rfl (fun b5 => ?_) (fun b5 => ?_)
      · skip
        refine rz_pure (pc' := 142) d_M_isFull_141 rfl ?_
        refine rz_pure (pc' := 143) d_M_isFull_142 rfl ?_
        refine rz_getr d_M_isFull_143 f_12_356 rfl rfl ?_
        refine rz_pure (pc' := 147) d_M_isFull_146 rfl ?_
        refine rz_ialdv (F := Sq4.1 136) (i := a1.toNatClampNeg) d_M_isFull_147 rfl w.1 rfl rfl ?_
        refine rz_pure (pc' := 149) d_M_isFull_148 rfl ?_
        refine rz_getr d_M_isFull_149 f_12_359 rfl rfl ?_
        refine rz_pure (pc' := 153) d_M_isFull_152 rfl ?_
        refine rz_ialdv (F := Sq4.1 137) (i := a1.toNatClampNeg) d_M_isFull_153 rfl w.1 rfl rfl ?_
        refine rz_pure (pc' := 155) d_M_isFull_154 rfl ?_
        refine rz_getr d_M_isFull_155 f_12_362 rfl rfl ?_
        refine rz_pure (pc' := 159) d_M_isFull_158 rfl ?_
        refine rz_ialdv (F := Sq4.1 138) (i := a1.toNatClampNeg) d_M_isFull_159 rfl w.1 rfl rfl ?_
        refine rz_iconst (v := 0) d_M_isFull_160 (by decide) ?_
        refine rz_callVi (t := [.int 0, .int (Sq4.1 138 a1.toNatClampNeg), .int (Sq4.1 137 a1.toNatClampNeg), .int (Sq4.1 136 a1.toNatClampNeg)]) d_M_isFull_161 w_12_223 rfl rfl rfl (q4.1 b5) (fun xq6 Sq6 q6 => ?_)
        refine rz_pure (pc' := 166) (l' := [(5, .int xq6), (0, .ref 116), (1, .int a1), (2, .int a2), (3, .int a3), (4, .int a4)]) d_M_isFull_164 rfl ?_
        refine rz_pure (pc' := 168) d_M_isFull_166 rfl ?_
        refine rz_ifeq (tgt := 176) d_M_isFull_168 rfl (fun b7 => ?_) (fun b7 => ?_)
        · skip
          refine rz_pure (pc' := 177) d_M_isFull_176 rfl ?_
          refine rz_bipush (v := 72) d_M_isFull_177 (by decide) ?_
          refine rz_iconst (v := 0) d_M_isFull_179 (by decide) ?_
          refine rz_iconst (v := 0) d_M_isFull_180 (by decide) ?_
          refine rz_callVi (t := [.int 0, .int 0, .int 72]) d_M_isFull_181 w_12_113 rfl rfl rfl (q6.1 b7) (fun xq8 Sq8 q8 => ?_)
          exact rz_ireti d_M_isFull_184 rfl rfl q8
        · skip
          refine rz_pure (pc' := 173) d_M_isFull_171 rfl ?_
          refine rz_pure (pc' := 184) d_M_isFull_173 rfl ?_
          exact rz_ireti d_M_isFull_184 rfl rfl (q6.2 b7)
      · skip
        refine rz_pure (pc' := 140) d_M_isFull_138 rfl ?_
        exact rz_ireti d_M_isFull_140 rfl rfl (q4.2 b5)
    · skip
      exact rz_pick (ks := [0, 1, 2, 3, 4]) (l := [(0, .ref 116), (1, .int a1), (2, .int a2), (3, .int a3), (4, .int a4)]) rfl rfl (by decide) rfl ((w.2.1 b1).2 b2)
theorem p_M_isFull_37 {S : rz_S} {K : Int32 → rz_S → Prop} {a1 : Int32} {a2 : Int32} {a3 : Int32} {a4 : Int32} (w : rz_ev mM_isLegal [.int a2, .int a3] S (rz_i (fun xq1 Sq1 => ((xq1 = 0 → rz mM_isFull 52 [(0, .ref 116), (2, .int a2), (3, .int a3)] [] Sq1 (rz_i K)) ∧ (¬ xq1 = 0 → ((a4 = 72 → rz mM_isFull 52 [(0, .ref 116), (2, .int a2), (3, .int a3)] [] Sq1 (rz_i K)) ∧ (¬ a4 = 72 → rz_ev mM_readBlock [.ref 116, .int a2, .int a3, .ref 125, .int 0] Sq1 (rz_i (fun xq4 Sq4 => ((xq4 = 0 → rz_ev mM_givesBack [.ref 116, .int a2, .int a3] Sq4 (rz_v (fun Sq6 => rz mM_isFull 17 [(0, .ref 116), (1, .int a1), (2, .int (Sq6.1 125 0)), (3, .int (Sq6.1 125 1)), (4, .int (a4 + 1))] [] Sq6 (rz_i K)))) ∧ (¬ xq4 = 0 → K xq4 Sq4))))))))))) : rz mM_isFull 37 [(0, .ref 116), (1, .int a1), (2, .int a2), (3, .int a3), (4, .int a4)] [] S (rz_i K) := by
  refine rz_pure (pc' := 38) d_M_isFull_37 rfl ?_
  refine rz_pure (pc' := 39) d_M_isFull_38 rfl ?_
  refine rz_callSi (t := [.int a3, .int a2]) d_M_isFull_39 rfl w_12_161 rfl rfl w (fun xq1 Sq1 q1 => ?_)
  refine rz_ifeq (tgt := 52) d_M_isFull_42 rfl (fun b2 => ?_) (fun b2 => ?_)
  · skip
    exact rz_pick (ks := [0, 2, 3]) (l := [(0, .ref 116), (2, .int a2), (3, .int a3)]) rfl rfl (by decide) rfl (q1.1 b2)
  · skip
    refine rz_pure (pc' := 47) d_M_isFull_45 rfl ?_
    refine rz_bipush (v := 72) d_M_isFull_47 (by decide) ?_
    refine rz_icmpne (tgt := 61) d_M_isFull_49 rfl (fun b3 => ?_) (fun b3 => ?_)
    · skip
      refine rz_pure (pc' := 62) d_M_isFull_61 rfl ?_
      refine rz_pure (pc' := 63) d_M_isFull_62 rfl ?_
      refine rz_pure (pc' := 64) d_M_isFull_63 rfl ?_
      refine rz_pure (pc' := 65) d_M_isFull_64 rfl ?_
      refine rz_getr d_M_isFull_65 f_12_186 rfl rfl ?_
      refine rz_iconst (v := 0) d_M_isFull_68 (by decide) ?_
      refine rz_callVi (t := [.int 0, .ref 125, .int a3, .int a2]) d_M_isFull_69 w_12_148 rfl rfl rfl ((q1.2 b2).2 b3) (fun xq4 Sq4 q4 => ?_)
      refine rz_pure (pc' := 74) (l' := [(5, .int xq4), (0, .ref 116), (1, .int a1), (2, .int a2), (3, .int a3), (4, .int a4)]) d_M_isFull_72 rfl ?_
      refine rz_pure (pc' := 76) d_M_isFull_74 rfl ?_
      refine rz_ifeq (tgt := 82) d_M_isFull_76 rfl (fun b5 => ?_) (fun b5 => ?_)
      · skip
        refine rz_pure (pc' := 83) d_M_isFull_82 rfl ?_
        refine rz_pure (pc' := 84) d_M_isFull_83 rfl ?_
        refine rz_pure (pc' := 85) d_M_isFull_84 rfl ?_
        refine rz_callVv (t := [.int a3, .int a2]) d_M_isFull_85 w_12_183 rfl rfl rfl (q4.1 b5) (fun Sq6 q6 => ?_)
        refine rz_pure (pc' := 90) d_M_isFull_88 rfl ?_
        refine rz_iconst (v := 1) d_M_isFull_90 (by decide) ?_
        refine rz_iadd d_M_isFull_91 ?_
        refine rz_pure (pc' := 94) (l' := [(4, .int (a4 + 1)), (5, .int xq4), (0, .ref 116), (1, .int a1), (2, .int a2), (3, .int a3)]) d_M_isFull_92 rfl ?_
        refine rz_pure (pc' := 95) d_M_isFull_94 rfl ?_
        refine rz_getr d_M_isFull_95 f_12_186 rfl rfl ?_
        refine rz_iconst (v := 0) d_M_isFull_98 (by decide) ?_
        refine rz_ialdv (F := Sq6.1 125) (i := 0) d_M_isFull_99 rfl (by decide) rfl (by decide) ?_
        refine rz_pure (pc' := 101) (l' := [(2, .int (Sq6.1 125 0)), (4, .int (a4 + 1)), (5, .int xq4), (0, .ref 116), (1, .int a1), (3, .int a3)]) d_M_isFull_100 rfl ?_
        refine rz_pure (pc' := 102) d_M_isFull_101 rfl ?_
        refine rz_getr d_M_isFull_102 f_12_186 rfl rfl ?_
        refine rz_iconst (v := 1) d_M_isFull_105 (by decide) ?_
        refine rz_ialdv (F := Sq6.1 125) (i := 1) d_M_isFull_106 rfl (by decide) rfl (by decide) ?_
        refine rz_pure (pc' := 108) (l' := [(3, .int (Sq6.1 125 1)), (2, .int (Sq6.1 125 0)), (4, .int (a4 + 1)), (5, .int xq4), (0, .ref 116), (1, .int a1)]) d_M_isFull_107 rfl ?_
        refine rz_pure (pc' := 17) d_M_isFull_108 rfl ?_
        exact rz_pick (ks := [0, 1, 2, 3, 4]) (l := [(0, .ref 116), (1, .int a1), (2, .int (Sq6.1 125 0)), (3, .int (Sq6.1 125 1)), (4, .int (a4 + 1))]) rfl rfl (by decide) rfl q6
      · skip
        refine rz_pure (pc' := 81) d_M_isFull_79 rfl ?_
        exact rz_ireti d_M_isFull_81 rfl rfl (q4.2 b5)
    · skip
      exact rz_pick (ks := [0, 2, 3]) (l := [(0, .ref 116), (2, .int a2), (3, .int a3)]) rfl rfl (by decide) rfl ((q1.2 b2).1 b3)
theorem p_M_isFull_52 {S : rz_S} {K : Int32 → rz_S → Prop} {a2 : Int32} {a3 : Int32} (w : rz_ev mM_fault [.ref 116, .int 71, .int a2, .int a3] S (rz_i (fun xq1 Sq1 => K xq1 Sq1))) : rz mM_isFull 52 [(0, .ref 116), (2, .int a2), (3, .int a3)] [] S (rz_i K) := by
  refine rz_pure (pc' := 53) d_M_isFull_52 rfl ?_
  refine rz_bipush (v := 71) d_M_isFull_53 (by decide) ?_
  refine rz_pure (pc' := 56) d_M_isFull_55 rfl ?_
  refine rz_pure (pc' := 57) d_M_isFull_56 rfl ?_
  refine rz_callVi (t := [.int a3, .int a2, .int 71]) d_M_isFull_57 w_12_113 rfl rfl rfl w (fun xq1 Sq1 q1 => ?_)
  exact rz_ireti d_M_isFull_60 rfl rfl q1
theorem d_M_commands_0 : decode (rm_code mM_commands) 0 = .ok (.iload_n 1, 1) := by decide +kernel
theorem d_M_commands_1 : decode (rm_code mM_commands) 1 = .ok (.ifCond .ne (8), 3) := by decide +kernel
theorem d_M_commands_4 : decode (rm_code mM_commands) 4 = .ok (.aload_n 0, 1) := by decide +kernel
theorem d_M_commands_5 : decode (rm_code mM_commands) 5 = .ok (.getfield 227, 3) := by decide +kernel
theorem d_M_commands_8 : decode (rm_code mM_commands) 8 = .ok (.ireturn, 1) := by decide +kernel
theorem d_M_commands_9 : decode (rm_code mM_commands) 9 = .ok (.aload_n 0, 1) := by decide +kernel
theorem d_M_commands_10 : decode (rm_code mM_commands) 10 = .ok (.invokevirtual 269, 3) := by decide +kernel
theorem d_M_commands_13 : decode (rm_code mM_commands) 13 = .ok (.iload_n 1, 1) := by decide +kernel
theorem d_M_commands_14 : decode (rm_code mM_commands) 14 = .ok (.bipush (40), 2) := by decide +kernel
theorem d_M_commands_16 : decode (rm_code mM_commands) 16 = .ok (.if_icmp .le (16), 3) := by decide +kernel
theorem d_M_commands_19 : decode (rm_code mM_commands) 19 = .ok (.aload_n 0, 1) := by decide +kernel
theorem d_M_commands_20 : decode (rm_code mM_commands) 20 = .ok (.aload_n 0, 1) := by decide +kernel
theorem d_M_commands_21 : decode (rm_code mM_commands) 21 = .ok (.bipush (32), 2) := by decide +kernel
theorem d_M_commands_23 : decode (rm_code mM_commands) 23 = .ok (.iconst 0, 1) := by decide +kernel
theorem d_M_commands_24 : decode (rm_code mM_commands) 24 = .ok (.iconst 0, 1) := by decide +kernel
theorem d_M_commands_25 : decode (rm_code mM_commands) 25 = .ok (.invokevirtual 113, 3) := by decide +kernel
theorem d_M_commands_28 : decode (rm_code mM_commands) 28 = .ok (.invokevirtual 272, 3) := by decide +kernel
theorem d_M_commands_31 : decode (rm_code mM_commands) 31 = .ok (.ireturn, 1) := by decide +kernel
theorem d_M_commands_32 : decode (rm_code mM_commands) 32 = .ok (.aload_n 0, 1) := by decide +kernel
theorem d_M_commands_33 : decode (rm_code mM_commands) 33 = .ok (.aload_n 0, 1) := by decide +kernel
theorem d_M_commands_34 : decode (rm_code mM_commands) 34 = .ok (.iload_n 1, 1) := by decide +kernel
theorem d_M_commands_35 : decode (rm_code mM_commands) 35 = .ok (.invokevirtual 537, 3) := by decide +kernel
theorem d_M_commands_38 : decode (rm_code mM_commands) 38 = .ok (.invokevirtual 272, 3) := by decide +kernel
theorem d_M_commands_41 : decode (rm_code mM_commands) 41 = .ok (.ireturn, 1) := by decide +kernel
theorem p_M_commands_0 {S : rz_S} {K : Int32 → rz_S → Prop} {a1 : Int32} (w : ((a1 = 0 → K (S.2 116 56) S) ∧ (¬ a1 = 0 → rz_ev mM_begins [.ref 116] S (rz_v (fun Sq2 => ((a1 ≤ 40 → rz_ev mM_does [.ref 116, .int a1] Sq2 (rz_i (fun xq4 Sq4 => rz_ev mM_ends [.ref 116, .int xq4] Sq4 (rz_i (fun xq5 Sq5 => K xq5 Sq5))))) ∧ (¬ a1 ≤ 40 → rz_ev mM_fault [.ref 116, .int 32, .int 0, .int 0] Sq2 (rz_i (fun xq6 Sq6 => rz_ev mM_ends [.ref 116, .int xq6] Sq6 (rz_i (fun xq7 Sq7 => K xq7 Sq7))))))))))) : rz mM_commands 0 [(0, .ref 116), (1, .int a1)] [] S (rz_i K) := by
  refine rz_pure (pc' := 1) d_M_commands_0 rfl ?_
  refine rz_ifne (tgt := 9) d_M_commands_1 rfl (fun b1 => ?_) (fun b1 => ?_)
  · skip
    refine rz_pure (pc' := 10) d_M_commands_9 rfl ?_
    refine rz_callVv (t := []) d_M_commands_10 w_12_269 rfl rfl rfl (w.2 b1) (fun Sq2 q2 => ?_)
    refine rz_pure (pc' := 14) d_M_commands_13 rfl ?_
    refine rz_bipush (v := 40) d_M_commands_14 (by decide) ?_
    refine rz_icmple (tgt := 32) d_M_commands_16 rfl (fun b3 => ?_) (fun b3 => ?_)
    · skip
      refine rz_pure (pc' := 33) d_M_commands_32 rfl ?_
      refine rz_pure (pc' := 34) d_M_commands_33 rfl ?_
      refine rz_pure (pc' := 35) d_M_commands_34 rfl ?_
      refine rz_callVi (t := [.int a1]) d_M_commands_35 w_12_537 rfl rfl rfl (q2.1 b3) (fun xq4 Sq4 q4 => ?_)
      refine rz_callVi (t := [.int xq4]) d_M_commands_38 w_12_272 rfl rfl rfl q4 (fun xq5 Sq5 q5 => ?_)
      exact rz_ireti d_M_commands_41 rfl rfl q5
    · skip
      refine rz_pure (pc' := 20) d_M_commands_19 rfl ?_
      refine rz_pure (pc' := 21) d_M_commands_20 rfl ?_
      refine rz_bipush (v := 32) d_M_commands_21 (by decide) ?_
      refine rz_iconst (v := 0) d_M_commands_23 (by decide) ?_
      refine rz_iconst (v := 0) d_M_commands_24 (by decide) ?_
      refine rz_callVi (t := [.int 0, .int 0, .int 32]) d_M_commands_25 w_12_113 rfl rfl rfl (q2.2 b3) (fun xq6 Sq6 q6 => ?_)
      refine rz_callVi (t := [.int xq6]) d_M_commands_28 w_12_272 rfl rfl rfl q6 (fun xq7 Sq7 q7 => ?_)
      exact rz_ireti d_M_commands_31 rfl rfl q7
  · skip
    refine rz_pure (pc' := 5) d_M_commands_4 rfl ?_
    refine rz_getiv (v := S.2 116 56) d_M_commands_5 f_12_227 rfl rfl rfl ?_
    exact rz_ireti d_M_commands_8 rfl rfl (w.1 b1)
theorem d_M_begins3_0 : decode (rm_code mM_begins3) 0 = .ok (.aload_n 0, 1) := by decide +kernel
theorem d_M_begins3_1 : decode (rm_code mM_begins3) 1 = .ok (.getfield 260, 3) := by decide +kernel
theorem d_M_begins3_4 : decode (rm_code mM_begins3) 4 = .ok (.iconst 0, 1) := by decide +kernel
theorem d_M_begins3_5 : decode (rm_code mM_begins3) 5 = .ok (.iaload, 1) := by decide +kernel
theorem d_M_begins3_6 : decode (rm_code mM_begins3) 6 = .ok (.iload_n 1, 1) := by decide +kernel
theorem d_M_begins3_7 : decode (rm_code mM_begins3) 7 = .ok (.if_icmp .ne (27), 3) := by decide +kernel
theorem d_M_begins3_10 : decode (rm_code mM_begins3) 10 = .ok (.aload_n 0, 1) := by decide +kernel
theorem d_M_begins3_11 : decode (rm_code mM_begins3) 11 = .ok (.getfield 260, 3) := by decide +kernel
theorem d_M_begins3_14 : decode (rm_code mM_begins3) 14 = .ok (.iconst 1, 1) := by decide +kernel
theorem d_M_begins3_15 : decode (rm_code mM_begins3) 15 = .ok (.iaload, 1) := by decide +kernel
theorem d_M_begins3_16 : decode (rm_code mM_begins3) 16 = .ok (.iload_n 2, 1) := by decide +kernel
theorem d_M_begins3_17 : decode (rm_code mM_begins3) 17 = .ok (.if_icmp .ne (17), 3) := by decide +kernel
theorem d_M_begins3_20 : decode (rm_code mM_begins3) 20 = .ok (.aload_n 0, 1) := by decide +kernel
theorem d_M_begins3_21 : decode (rm_code mM_begins3) 21 = .ok (.getfield 260, 3) := by decide +kernel
theorem d_M_begins3_24 : decode (rm_code mM_begins3) 24 = .ok (.iconst 2, 1) := by decide +kernel
theorem d_M_begins3_25 : decode (rm_code mM_begins3) 25 = .ok (.iaload, 1) := by decide +kernel
theorem d_M_begins3_26 : decode (rm_code mM_begins3) 26 = .ok (.iload_n 3, 1) := by decide +kernel
theorem d_M_begins3_27 : decode (rm_code mM_begins3) 27 = .ok (.if_icmp .ne (7), 3) := by decide +kernel
theorem d_M_begins3_30 : decode (rm_code mM_begins3) 30 = .ok (.iconst 1, 1) := by decide +kernel
theorem d_M_begins3_31 : decode (rm_code mM_begins3) 31 = .ok (.goto (4), 3) := by decide +kernel
theorem d_M_begins3_34 : decode (rm_code mM_begins3) 34 = .ok (.iconst 0, 1) := by decide +kernel
theorem d_M_begins3_35 : decode (rm_code mM_begins3) 35 = .ok (.ireturn, 1) := by decide +kernel
theorem p_M_begins3_0 {S : rz_S} {K : Int32 → rz_S → Prop} {a1 : Int32} {a2 : Int32} {a3 : Int32} (w : ((S.1 151 0 = a1 → ((S.1 151 1 = a2 → ((S.1 151 2 = a3 → K 1 S) ∧ (¬ S.1 151 2 = a3 → K 0 S))) ∧ (¬ S.1 151 1 = a2 → K 0 S))) ∧ (¬ S.1 151 0 = a1 → K 0 S))) : rz mM_begins3 0 [(0, .ref 116), (1, .int a1), (2, .int a2), (3, .int a3)] [] S (rz_i K) := by
  refine rz_pure (pc' := 1) d_M_begins3_0 rfl ?_
  refine rz_getr d_M_begins3_1 f_12_260 rfl rfl ?_
  refine rz_iconst (v := 0) d_M_begins3_4 (by decide) ?_
  refine rz_ialdv (F := S.1 151) (i := 0) d_M_begins3_5 rfl (by decide) rfl (by decide) ?_
  refine rz_pure (pc' := 7) d_M_begins3_6 rfl ?_
  refine rz_icmpne (tgt := 34) d_M_begins3_7 rfl (fun b1 => ?_) (fun b1 => ?_)
  · skip
    refine rz_iconst (v := 0) d_M_begins3_34 (by decide) ?_
    exact rz_ireti d_M_begins3_35 rfl (by decide) (w.2 b1)
  · skip
    refine rz_pure (pc' := 11) d_M_begins3_10 rfl ?_
    refine rz_getr d_M_begins3_11 f_12_260 rfl rfl ?_
    refine rz_iconst (v := 1) d_M_begins3_14 (by decide) ?_
    refine rz_ialdv (F := S.1 151) (i := 1) d_M_begins3_15 rfl (by decide) rfl (by decide) ?_
    refine rz_pure (pc' := 17) d_M_begins3_16 rfl ?_
    refine rz_icmpne (tgt := 34) d_M_begins3_17 rfl (fun b2 => ?_) (fun b2 => ?_)
    · skip
      refine rz_iconst (v := 0) d_M_begins3_34 (by decide) ?_
      exact rz_ireti d_M_begins3_35 rfl (by decide) ((w.1 b1).2 b2)
    · skip
      refine rz_pure (pc' := 21) d_M_begins3_20 rfl ?_
      refine rz_getr d_M_begins3_21 f_12_260 rfl rfl ?_
      refine rz_iconst (v := 2) d_M_begins3_24 (by decide) ?_
      refine rz_ialdv (F := S.1 151) (i := 2) d_M_begins3_25 rfl (by decide) rfl (by decide) ?_
      refine rz_pure (pc' := 27) d_M_begins3_26 rfl ?_
      refine rz_icmpne (tgt := 34) d_M_begins3_27 rfl (fun b3 => ?_) (fun b3 => ?_)
      · skip
        refine rz_iconst (v := 0) d_M_begins3_34 (by decide) ?_
        exact rz_ireti d_M_begins3_35 rfl (by decide) (((w.1 b1).1 b2).2 b3)
      · skip
        refine rz_iconst (v := 1) d_M_begins3_30 (by decide) ?_
        refine rz_pure (pc' := 35) d_M_begins3_31 rfl ?_
        exact rz_ireti d_M_begins3_35 rfl (by decide) (((w.1 b1).1 b2).1 b3)
theorem d_M_does_0 : decode (rm_code mM_does) 0 = .ok (.aload_n 0, 1) := by decide +kernel
theorem d_M_does_1 : decode (rm_code mM_does) 1 = .ok (.getfield 260, 3) := by decide +kernel
theorem d_M_does_4 : decode (rm_code mM_does) 4 = .ok (.iconst 0, 1) := by decide +kernel
theorem d_M_does_5 : decode (rm_code mM_does) 5 = .ok (.iaload, 1) := by decide +kernel
theorem d_M_does_6 : decode (rm_code mM_does) 6 = .ok (.istore_n 2, 1) := by decide +kernel
theorem d_M_does_7 : decode (rm_code mM_does) 7 = .ok (.iload_n 1, 1) := by decide +kernel
theorem d_M_does_8 : decode (rm_code mM_does) 8 = .ok (.iconst 1, 1) := by decide +kernel
theorem d_M_does_9 : decode (rm_code mM_does) 9 = .ok (.if_icmp .le (12), 3) := by decide +kernel
theorem d_M_does_12 : decode (rm_code mM_does) 12 = .ok (.aload_n 0, 1) := by decide +kernel
theorem d_M_does_13 : decode (rm_code mM_does) 13 = .ok (.getfield 260, 3) := by decide +kernel
theorem d_M_does_16 : decode (rm_code mM_does) 16 = .ok (.iconst 1, 1) := by decide +kernel
theorem d_M_does_17 : decode (rm_code mM_does) 17 = .ok (.iaload, 1) := by decide +kernel
theorem d_M_does_18 : decode (rm_code mM_does) 18 = .ok (.goto (4), 3) := by decide +kernel
theorem d_M_does_21 : decode (rm_code mM_does) 21 = .ok (.iconst (-1), 1) := by decide +kernel
theorem d_M_does_22 : decode (rm_code mM_does) 22 = .ok (.istore_n 3, 1) := by decide +kernel
theorem d_M_does_23 : decode (rm_code mM_does) 23 = .ok (.iload_n 1, 1) := by decide +kernel
theorem d_M_does_24 : decode (rm_code mM_does) 24 = .ok (.iconst 1, 1) := by decide +kernel
theorem d_M_does_25 : decode (rm_code mM_does) 25 = .ok (.if_icmp .ne (14), 3) := by decide +kernel
theorem d_M_does_28 : decode (rm_code mM_does) 28 = .ok (.iload_n 2, 1) := by decide +kernel
theorem d_M_does_29 : decode (rm_code mM_does) 29 = .ok (.bipush (73), 2) := by decide +kernel
theorem d_M_does_31 : decode (rm_code mM_does) 31 = .ok (.if_icmp .ne (8), 3) := by decide +kernel
theorem d_M_does_34 : decode (rm_code mM_does) 34 = .ok (.aload_n 0, 1) := by decide +kernel
theorem d_M_does_35 : decode (rm_code mM_does) 35 = .ok (.invokevirtual 540, 3) := by decide +kernel
theorem d_M_does_38 : decode (rm_code mM_does) 38 = .ok (.ireturn, 1) := by decide +kernel
theorem d_M_does_39 : decode (rm_code mM_does) 39 = .ok (.iload_n 1, 1) := by decide +kernel
theorem d_M_does_40 : decode (rm_code mM_does) 40 = .ok (.iconst 1, 1) := by decide +kernel
theorem d_M_does_41 : decode (rm_code mM_does) 41 = .ok (.if_icmp .ne (14), 3) := by decide +kernel
theorem d_M_does_44 : decode (rm_code mM_does) 44 = .ok (.iload_n 2, 1) := by decide +kernel
theorem d_M_does_45 : decode (rm_code mM_does) 45 = .ok (.bipush (86), 2) := by decide +kernel
theorem d_M_does_47 : decode (rm_code mM_does) 47 = .ok (.if_icmp .ne (8), 3) := by decide +kernel
theorem d_M_does_50 : decode (rm_code mM_does) 50 = .ok (.aload_n 0, 1) := by decide +kernel
theorem d_M_does_51 : decode (rm_code mM_does) 51 = .ok (.invokevirtual 543, 3) := by decide +kernel
theorem d_M_does_54 : decode (rm_code mM_does) 54 = .ok (.ireturn, 1) := by decide +kernel
theorem d_M_does_55 : decode (rm_code mM_does) 55 = .ok (.iload_n 1, 1) := by decide +kernel
theorem d_M_does_56 : decode (rm_code mM_does) 56 = .ok (.iconst 2, 1) := by decide +kernel
theorem d_M_does_57 : decode (rm_code mM_does) 57 = .ok (.if_icmp .ne (38), 3) := by decide +kernel
theorem d_M_does_60 : decode (rm_code mM_does) 60 = .ok (.iload_n 2, 1) := by decide +kernel
theorem d_M_does_61 : decode (rm_code mM_does) 61 = .ok (.bipush (85), 2) := by decide +kernel
theorem d_M_does_63 : decode (rm_code mM_does) 63 = .ok (.if_icmp .ne (32), 3) := by decide +kernel
theorem d_M_does_66 : decode (rm_code mM_does) 66 = .ok (.iload_n 3, 1) := by decide +kernel
theorem d_M_does_67 : decode (rm_code mM_does) 67 = .ok (.bipush (73), 2) := by decide +kernel
theorem d_M_does_69 : decode (rm_code mM_does) 69 = .ok (.if_icmp .ne (26), 3) := by decide +kernel
theorem d_M_does_72 : decode (rm_code mM_does) 72 = .ok (.aload_n 0, 1) := by decide +kernel
theorem d_M_does_73 : decode (rm_code mM_does) 73 = .ok (.invokevirtual 546, 3) := by decide +kernel
theorem d_M_does_76 : decode (rm_code mM_does) 76 = .ok (.aload_n 0, 1) := by decide +kernel
theorem d_M_does_77 : decode (rm_code mM_does) 77 = .ok (.iconst (-1), 1) := by decide +kernel
theorem d_M_does_78 : decode (rm_code mM_does) 78 = .ok (.putfield 90, 3) := by decide +kernel
theorem d_M_does_81 : decode (rm_code mM_does) 81 = .ok (.aload_n 0, 1) := by decide +kernel
theorem d_M_does_82 : decode (rm_code mM_does) 82 = .ok (.iconst (-1), 1) := by decide +kernel
theorem d_M_does_83 : decode (rm_code mM_does) 83 = .ok (.putfield 93, 3) := by decide +kernel
theorem d_M_does_86 : decode (rm_code mM_does) 86 = .ok (.aload_n 0, 1) := by decide +kernel
theorem d_M_does_87 : decode (rm_code mM_does) 87 = .ok (.bipush (73), 2) := by decide +kernel
theorem d_M_does_89 : decode (rm_code mM_does) 89 = .ok (.iconst 0, 1) := by decide +kernel
theorem d_M_does_90 : decode (rm_code mM_does) 90 = .ok (.iconst 0, 1) := by decide +kernel
theorem d_M_does_91 : decode (rm_code mM_does) 91 = .ok (.invokevirtual 113, 3) := by decide +kernel
theorem d_M_does_94 : decode (rm_code mM_does) 94 = .ok (.ireturn, 1) := by decide +kernel
theorem d_M_does_95 : decode (rm_code mM_does) 95 = .ok (.iload_n 2, 1) := by decide +kernel
theorem d_M_does_96 : decode (rm_code mM_does) 96 = .ok (.bipush (78), 2) := by decide +kernel
theorem d_M_does_98 : decode (rm_code mM_does) 98 = .ok (.if_icmp .eq (15), 3) := by decide +kernel
theorem d_M_does_101 : decode (rm_code mM_does) 101 = .ok (.iload_n 2, 1) := by decide +kernel
theorem d_M_does_102 : decode (rm_code mM_does) 102 = .ok (.bipush (83), 2) := by decide +kernel
theorem d_M_does_104 : decode (rm_code mM_does) 104 = .ok (.if_icmp .eq (9), 3) := by decide +kernel
theorem d_M_does_107 : decode (rm_code mM_does) 107 = .ok (.iload_n 2, 1) := by decide +kernel
theorem d_M_does_108 : decode (rm_code mM_does) 108 = .ok (.bipush (82), 2) := by decide +kernel
theorem d_M_does_110 : decode (rm_code mM_does) 110 = .ok (.if_icmp .ne (52), 3) := by decide +kernel
theorem d_M_does_113 : decode (rm_code mM_does) 113 = .ok (.iload_n 3, 1) := by decide +kernel
theorem d_M_does_114 : decode (rm_code mM_does) 114 = .ok (.bipush (58), 2) := by decide +kernel
theorem d_M_does_116 : decode (rm_code mM_does) 116 = .ok (.if_icmp .eq (12), 3) := by decide +kernel
theorem d_M_does_119 : decode (rm_code mM_does) 119 = .ok (.aload_n 0, 1) := by decide +kernel
theorem d_M_does_120 : decode (rm_code mM_does) 120 = .ok (.bipush (30), 2) := by decide +kernel
theorem d_M_does_122 : decode (rm_code mM_does) 122 = .ok (.iconst 0, 1) := by decide +kernel
theorem d_M_does_123 : decode (rm_code mM_does) 123 = .ok (.iconst 0, 1) := by decide +kernel
theorem d_M_does_124 : decode (rm_code mM_does) 124 = .ok (.invokevirtual 113, 3) := by decide +kernel
theorem d_M_does_127 : decode (rm_code mM_does) 127 = .ok (.ireturn, 1) := by decide +kernel
theorem d_M_does_128 : decode (rm_code mM_does) 128 = .ok (.iload_n 2, 1) := by decide +kernel
theorem d_M_does_129 : decode (rm_code mM_does) 129 = .ok (.bipush (78), 2) := by decide +kernel
theorem d_M_does_131 : decode (rm_code mM_does) 131 = .ok (.if_icmp .ne (11), 3) := by decide +kernel
theorem d_M_does_134 : decode (rm_code mM_does) 134 = .ok (.aload_n 0, 1) := by decide +kernel
theorem d_M_does_135 : decode (rm_code mM_does) 135 = .ok (.iload_n 1, 1) := by decide +kernel
theorem d_M_does_136 : decode (rm_code mM_does) 136 = .ok (.invokevirtual 549, 3) := by decide +kernel
theorem d_M_does_139 : decode (rm_code mM_does) 139 = .ok (.goto (22), 3) := by decide +kernel
theorem d_M_does_142 : decode (rm_code mM_does) 142 = .ok (.iload_n 2, 1) := by decide +kernel
theorem d_M_does_143 : decode (rm_code mM_does) 143 = .ok (.bipush (83), 2) := by decide +kernel
theorem d_M_does_145 : decode (rm_code mM_does) 145 = .ok (.if_icmp .ne (11), 3) := by decide +kernel
theorem d_M_does_148 : decode (rm_code mM_does) 148 = .ok (.aload_n 0, 1) := by decide +kernel
theorem d_M_does_149 : decode (rm_code mM_does) 149 = .ok (.iload_n 1, 1) := by decide +kernel
theorem d_M_does_150 : decode (rm_code mM_does) 150 = .ok (.invokevirtual 552, 3) := by decide +kernel
theorem d_M_does_153 : decode (rm_code mM_does) 153 = .ok (.goto (8), 3) := by decide +kernel
theorem d_M_does_156 : decode (rm_code mM_does) 156 = .ok (.aload_n 0, 1) := by decide +kernel
theorem d_M_does_157 : decode (rm_code mM_does) 157 = .ok (.iload_n 1, 1) := by decide +kernel
theorem d_M_does_158 : decode (rm_code mM_does) 158 = .ok (.invokevirtual 555, 3) := by decide +kernel
theorem d_M_does_161 : decode (rm_code mM_does) 161 = .ok (.ireturn, 1) := by decide +kernel
theorem d_M_does_162 : decode (rm_code mM_does) 162 = .ok (.iload_n 2, 1) := by decide +kernel
theorem d_M_does_163 : decode (rm_code mM_does) 163 = .ok (.bipush (85), 2) := by decide +kernel
theorem d_M_does_165 : decode (rm_code mM_does) 165 = .ok (.if_icmp .ne (32), 3) := by decide +kernel
theorem d_M_does_168 : decode (rm_code mM_does) 168 = .ok (.iload_n 3, 1) := by decide +kernel
theorem d_M_does_169 : decode (rm_code mM_does) 169 = .ok (.bipush (49), 2) := by decide +kernel
theorem d_M_does_171 : decode (rm_code mM_does) 171 = .ok (.if_icmp .eq (9), 3) := by decide +kernel
theorem d_M_does_174 : decode (rm_code mM_does) 174 = .ok (.iload_n 3, 1) := by decide +kernel
theorem d_M_does_175 : decode (rm_code mM_does) 175 = .ok (.bipush (50), 2) := by decide +kernel
theorem d_M_does_177 : decode (rm_code mM_does) 177 = .ok (.if_icmp .ne (20), 3) := by decide +kernel
theorem d_M_does_180 : decode (rm_code mM_does) 180 = .ok (.aload_n 0, 1) := by decide +kernel
theorem d_M_does_181 : decode (rm_code mM_does) 181 = .ok (.iload_n 1, 1) := by decide +kernel
theorem d_M_does_182 : decode (rm_code mM_does) 182 = .ok (.iload_n 3, 1) := by decide +kernel
theorem d_M_does_183 : decode (rm_code mM_does) 183 = .ok (.bipush (50), 2) := by decide +kernel
theorem d_M_does_185 : decode (rm_code mM_does) 185 = .ok (.if_icmp .ne (7), 3) := by decide +kernel
theorem d_M_does_188 : decode (rm_code mM_does) 188 = .ok (.iconst 1, 1) := by decide +kernel
theorem d_M_does_189 : decode (rm_code mM_does) 189 = .ok (.goto (4), 3) := by decide +kernel
theorem d_M_does_192 : decode (rm_code mM_does) 192 = .ok (.iconst 0, 1) := by decide +kernel
theorem d_M_does_193 : decode (rm_code mM_does) 193 = .ok (.invokevirtual 558, 3) := by decide +kernel
theorem d_M_does_196 : decode (rm_code mM_does) 196 = .ok (.ireturn, 1) := by decide +kernel
theorem d_M_does_197 : decode (rm_code mM_does) 197 = .ok (.iload_n 1, 1) := by decide +kernel
theorem d_M_does_198 : decode (rm_code mM_does) 198 = .ok (.iconst 3, 1) := by decide +kernel
theorem d_M_does_199 : decode (rm_code mM_does) 199 = .ok (.if_icmp .ge (12), 3) := by decide +kernel
theorem d_M_does_202 : decode (rm_code mM_does) 202 = .ok (.aload_n 0, 1) := by decide +kernel
theorem d_M_does_203 : decode (rm_code mM_does) 203 = .ok (.bipush (31), 2) := by decide +kernel
theorem d_M_does_205 : decode (rm_code mM_does) 205 = .ok (.iconst 0, 1) := by decide +kernel
theorem d_M_does_206 : decode (rm_code mM_does) 206 = .ok (.iconst 0, 1) := by decide +kernel
theorem d_M_does_207 : decode (rm_code mM_does) 207 = .ok (.invokevirtual 113, 3) := by decide +kernel
theorem d_M_does_210 : decode (rm_code mM_does) 210 = .ok (.ireturn, 1) := by decide +kernel
theorem d_M_does_211 : decode (rm_code mM_does) 211 = .ok (.aload_n 0, 1) := by decide +kernel
theorem d_M_does_212 : decode (rm_code mM_does) 212 = .ok (.bipush (66), 2) := by decide +kernel
theorem d_M_does_214 : decode (rm_code mM_does) 214 = .ok (.bipush (45), 2) := by decide +kernel
theorem d_M_does_216 : decode (rm_code mM_does) 216 = .ok (.bipush (80), 2) := by decide +kernel
theorem d_M_does_218 : decode (rm_code mM_does) 218 = .ok (.invokevirtual 562, 3) := by decide +kernel
theorem d_M_does_221 : decode (rm_code mM_does) 221 = .ok (.ifCond .eq (9), 3) := by decide +kernel
theorem d_M_does_224 : decode (rm_code mM_does) 224 = .ok (.aload_n 0, 1) := by decide +kernel
theorem d_M_does_225 : decode (rm_code mM_does) 225 = .ok (.iload_n 1, 1) := by decide +kernel
theorem d_M_does_226 : decode (rm_code mM_does) 226 = .ok (.invokevirtual 566, 3) := by decide +kernel
theorem d_M_does_229 : decode (rm_code mM_does) 229 = .ok (.ireturn, 1) := by decide +kernel
theorem d_M_does_230 : decode (rm_code mM_does) 230 = .ok (.aload_n 0, 1) := by decide +kernel
theorem d_M_does_231 : decode (rm_code mM_does) 231 = .ok (.bipush (66), 2) := by decide +kernel
theorem d_M_does_233 : decode (rm_code mM_does) 233 = .ok (.bipush (45), 2) := by decide +kernel
theorem d_M_does_235 : decode (rm_code mM_does) 235 = .ok (.bipush (65), 2) := by decide +kernel
theorem d_M_does_237 : decode (rm_code mM_does) 237 = .ok (.invokevirtual 562, 3) := by decide +kernel
theorem d_M_does_240 : decode (rm_code mM_does) 240 = .ok (.ifCond .eq (9), 3) := by decide +kernel
theorem d_M_does_243 : decode (rm_code mM_does) 243 = .ok (.aload_n 0, 1) := by decide +kernel
theorem d_M_does_244 : decode (rm_code mM_does) 244 = .ok (.iload_n 1, 1) := by decide +kernel
theorem d_M_does_245 : decode (rm_code mM_does) 245 = .ok (.invokevirtual 569, 3) := by decide +kernel
theorem d_M_does_248 : decode (rm_code mM_does) 248 = .ok (.ireturn, 1) := by decide +kernel
theorem d_M_does_249 : decode (rm_code mM_does) 249 = .ok (.aload_n 0, 1) := by decide +kernel
theorem d_M_does_250 : decode (rm_code mM_does) 250 = .ok (.bipush (66), 2) := by decide +kernel
theorem d_M_does_252 : decode (rm_code mM_does) 252 = .ok (.bipush (45), 2) := by decide +kernel
theorem d_M_does_254 : decode (rm_code mM_does) 254 = .ok (.bipush (70), 2) := by decide +kernel
theorem d_M_does_256 : decode (rm_code mM_does) 256 = .ok (.invokevirtual 562, 3) := by decide +kernel
theorem d_M_does_259 : decode (rm_code mM_does) 259 = .ok (.ifCond .eq (9), 3) := by decide +kernel
theorem d_M_does_262 : decode (rm_code mM_does) 262 = .ok (.aload_n 0, 1) := by decide +kernel
theorem d_M_does_263 : decode (rm_code mM_does) 263 = .ok (.iload_n 1, 1) := by decide +kernel
theorem d_M_does_264 : decode (rm_code mM_does) 264 = .ok (.invokevirtual 572, 3) := by decide +kernel
theorem d_M_does_267 : decode (rm_code mM_does) 267 = .ok (.ireturn, 1) := by decide +kernel
theorem d_M_does_268 : decode (rm_code mM_does) 268 = .ok (.aload_n 0, 1) := by decide +kernel
theorem d_M_does_269 : decode (rm_code mM_does) 269 = .ok (.bipush (77), 2) := by decide +kernel
theorem d_M_does_271 : decode (rm_code mM_does) 271 = .ok (.bipush (45), 2) := by decide +kernel
theorem d_M_does_273 : decode (rm_code mM_does) 273 = .ok (.bipush (87), 2) := by decide +kernel
theorem d_M_does_275 : decode (rm_code mM_does) 275 = .ok (.invokevirtual 562, 3) := by decide +kernel
theorem d_M_does_278 : decode (rm_code mM_does) 278 = .ok (.ifCond .ne (29), 3) := by decide +kernel
theorem d_M_does_281 : decode (rm_code mM_does) 281 = .ok (.aload_n 0, 1) := by decide +kernel
theorem d_M_does_282 : decode (rm_code mM_does) 282 = .ok (.bipush (77), 2) := by decide +kernel
theorem d_M_does_284 : decode (rm_code mM_does) 284 = .ok (.bipush (45), 2) := by decide +kernel
theorem d_M_does_286 : decode (rm_code mM_does) 286 = .ok (.bipush (82), 2) := by decide +kernel
theorem d_M_does_288 : decode (rm_code mM_does) 288 = .ok (.invokevirtual 562, 3) := by decide +kernel
theorem d_M_does_291 : decode (rm_code mM_does) 291 = .ok (.ifCond .ne (16), 3) := by decide +kernel
theorem d_M_does_294 : decode (rm_code mM_does) 294 = .ok (.aload_n 0, 1) := by decide +kernel
theorem d_M_does_295 : decode (rm_code mM_does) 295 = .ok (.bipush (77), 2) := by decide +kernel
theorem d_M_does_297 : decode (rm_code mM_does) 297 = .ok (.bipush (45), 2) := by decide +kernel
theorem d_M_does_299 : decode (rm_code mM_does) 299 = .ok (.bipush (69), 2) := by decide +kernel
theorem d_M_does_301 : decode (rm_code mM_does) 301 = .ok (.invokevirtual 562, 3) := by decide +kernel
theorem d_M_does_304 : decode (rm_code mM_does) 304 = .ok (.ifCond .eq (9), 3) := by decide +kernel
theorem d_M_does_307 : decode (rm_code mM_does) 307 = .ok (.aload_n 0, 1) := by decide +kernel
theorem d_M_does_308 : decode (rm_code mM_does) 308 = .ok (.iload_n 1, 1) := by decide +kernel
theorem d_M_does_309 : decode (rm_code mM_does) 309 = .ok (.invokevirtual 575, 3) := by decide +kernel
theorem d_M_does_312 : decode (rm_code mM_does) 312 = .ok (.ireturn, 1) := by decide +kernel
theorem d_M_does_313 : decode (rm_code mM_does) 313 = .ok (.aload_n 0, 1) := by decide +kernel
theorem d_M_does_314 : decode (rm_code mM_does) 314 = .ok (.bipush (31), 2) := by decide +kernel
theorem d_M_does_316 : decode (rm_code mM_does) 316 = .ok (.iconst 0, 1) := by decide +kernel
theorem d_M_does_317 : decode (rm_code mM_does) 317 = .ok (.iconst 0, 1) := by decide +kernel
theorem d_M_does_318 : decode (rm_code mM_does) 318 = .ok (.invokevirtual 113, 3) := by decide +kernel
theorem d_M_does_321 : decode (rm_code mM_does) 321 = .ok (.ireturn, 1) := by decide +kernel
theorem p_M_does_0 {S : rz_S} {K : Int32 → rz_S → Prop} {a1 : Int32} (w : ((a1 ≤ 1 → rz mM_does 22 [(0, .ref 116), (1, .int a1), (2, .int (S.1 151 0))] [.int (-1)] S (rz_i K)) ∧ (¬ a1 ≤ 1 → rz mM_does 22 [(0, .ref 116), (1, .int a1), (2, .int (S.1 151 0))] [.int (S.1 151 1)] S (rz_i K)))) : rz mM_does 0 [(0, .ref 116), (1, .int a1)] [] S (rz_i K) := by
  refine rz_pure (pc' := 1) d_M_does_0 rfl ?_
  refine rz_getr d_M_does_1 f_12_260 rfl rfl ?_
  refine rz_iconst (v := 0) d_M_does_4 (by decide) ?_
  refine rz_ialdv (F := S.1 151) (i := 0) d_M_does_5 rfl (by decide) rfl (by decide) ?_
  refine rz_pure (pc' := 7) (l' := [(2, .int (S.1 151 0)), (0, .ref 116), (1, .int a1)]) d_M_does_6 rfl ?_
  refine rz_pure (pc' := 8) d_M_does_7 rfl ?_
  refine rz_iconst (v := 1) d_M_does_8 (by decide) ?_
  refine rz_icmple (tgt := 21) d_M_does_9 rfl (fun b1 => ?_) (fun b1 => ?_)
  · skip
    refine rz_iconst (v := -1) d_M_does_21 (by decide) ?_
    exact rz_pick (ks := [0, 1, 2]) (l := [(0, .ref 116), (1, .int a1), (2, .int (S.1 151 0))]) rfl rfl (by decide) rfl (w.1 b1)
  · skip
    refine rz_pure (pc' := 13) d_M_does_12 rfl ?_
    refine rz_getr d_M_does_13 f_12_260 rfl rfl ?_
    refine rz_iconst (v := 1) d_M_does_16 (by decide) ?_
    refine rz_ialdv (F := S.1 151) (i := 1) d_M_does_17 rfl (by decide) rfl (by decide) ?_
    refine rz_pure (pc' := 22) d_M_does_18 rfl ?_
    exact rz_pick (ks := [0, 1, 2]) (l := [(0, .ref 116), (1, .int a1), (2, .int (S.1 151 0))]) rfl rfl (by decide) rfl (w.2 b1)
theorem p_M_does_22 {S : rz_S} {K : Int32 → rz_S → Prop} {a1 : Int32} {a2 : Int32} {s0 : Int32} (w : ((a1 = 1 → ((a2 = 73 → rz_ev mM_again [.ref 116] S (rz_i (fun xq3 Sq3 => K xq3 Sq3))) ∧ (¬ a2 = 73 → rz mM_does 39 [(0, .ref 116), (1, .int a1), (2, .int a2), (3, .int s0)] [] S (rz_i K)))) ∧ (¬ a1 = 1 → rz mM_does 39 [(0, .ref 116), (1, .int a1), (2, .int a2), (3, .int s0)] [] S (rz_i K)))) : rz mM_does 22 [(0, .ref 116), (1, .int a1), (2, .int a2)] [.int s0] S (rz_i K) := by
  refine rz_pure (pc' := 23) (l' := [(3, .int s0), (0, .ref 116), (1, .int a1), (2, .int a2)]) d_M_does_22 rfl ?_
  refine rz_pure (pc' := 24) d_M_does_23 rfl ?_
  refine rz_iconst (v := 1) d_M_does_24 (by decide) ?_
  refine rz_icmpne (tgt := 39) d_M_does_25 rfl (fun b1 => ?_) (fun b1 => ?_)
  · skip
    exact rz_pick (ks := [0, 1, 2, 3]) (l := [(0, .ref 116), (1, .int a1), (2, .int a2), (3, .int s0)]) rfl rfl (by decide) rfl (w.2 b1)
  · skip
    refine rz_pure (pc' := 29) d_M_does_28 rfl ?_
    refine rz_bipush (v := 73) d_M_does_29 (by decide) ?_
    refine rz_icmpne (tgt := 39) d_M_does_31 rfl (fun b2 => ?_) (fun b2 => ?_)
    · skip
      exact rz_pick (ks := [0, 1, 2, 3]) (l := [(0, .ref 116), (1, .int a1), (2, .int a2), (3, .int s0)]) rfl rfl (by decide) rfl ((w.1 b1).2 b2)
    · skip
      refine rz_pure (pc' := 35) d_M_does_34 rfl ?_
      refine rz_callVi (t := []) d_M_does_35 w_12_540 rfl rfl rfl ((w.1 b1).1 b2) (fun xq3 Sq3 q3 => ?_)
      exact rz_ireti d_M_does_38 rfl rfl q3
theorem p_M_does_39 {S : rz_S} {K : Int32 → rz_S → Prop} {a1 : Int32} {a2 : Int32} {a3 : Int32} (w : ((a1 = 1 → ((a2 = 86 → rz_ev mM_validates [.ref 116] S (rz_i (fun xq3 Sq3 => K xq3 Sq3))) ∧ (¬ a2 = 86 → rz mM_does 55 [(0, .ref 116), (1, .int a1), (2, .int a2), (3, .int a3)] [] S (rz_i K)))) ∧ (¬ a1 = 1 → rz mM_does 55 [(0, .ref 116), (1, .int a1), (2, .int a2), (3, .int a3)] [] S (rz_i K)))) : rz mM_does 39 [(0, .ref 116), (1, .int a1), (2, .int a2), (3, .int a3)] [] S (rz_i K) := by
  refine rz_pure (pc' := 40) d_M_does_39 rfl ?_
  refine rz_iconst (v := 1) d_M_does_40 (by decide) ?_
  refine rz_icmpne (tgt := 55) d_M_does_41 rfl (fun b1 => ?_) (fun b1 => ?_)
  · skip
    exact rz_pick (ks := [0, 1, 2, 3]) (l := [(0, .ref 116), (1, .int a1), (2, .int a2), (3, .int a3)]) rfl rfl (by decide) rfl (w.2 b1)
  · skip
    refine rz_pure (pc' := 45) d_M_does_44 rfl ?_
    refine rz_bipush (v := 86) d_M_does_45 (by decide) ?_
    refine rz_icmpne (tgt := 55) d_M_does_47 rfl (fun b2 => ?_) (fun b2 => ?_)
    · skip
      exact rz_pick (ks := [0, 1, 2, 3]) (l := [(0, .ref 116), (1, .int a1), (2, .int a2), (3, .int a3)]) rfl rfl (by decide) rfl ((w.1 b1).2 b2)
    · skip
      refine rz_pure (pc' := 51) d_M_does_50 rfl ?_
      refine rz_callVi (t := []) d_M_does_51 w_12_543 rfl rfl rfl ((w.1 b1).1 b2) (fun xq3 Sq3 q3 => ?_)
      exact rz_ireti d_M_does_54 rfl rfl q3
theorem p_M_does_55 {S : rz_S} {K : Int32 → rz_S → Prop} {a1 : Int32} {a2 : Int32} {a3 : Int32} (w : ((a1 = 2 → ((a2 = 85 → ((a3 = 73 → rz_ev mM_shutsAll [.ref 116] S (rz_v (fun Sq4 => rz_ev mM_fault [.ref 116, .int 73, .int 0, .int 0] (rz_uI (rz_uI Sq4 116 2 (-1)) 116 3 (-1)) (rz_i (fun xq5 Sq5 => K xq5 Sq5))))) ∧ (¬ a3 = 73 → rz mM_does 95 [(0, .ref 116), (1, .int a1), (2, .int a2), (3, .int a3)] [] S (rz_i K)))) ∧ (¬ a2 = 85 → rz mM_does 95 [(0, .ref 116), (1, .int a1), (2, .int a2), (3, .int a3)] [] S (rz_i K)))) ∧ (¬ a1 = 2 → rz mM_does 95 [(0, .ref 116), (1, .int a1), (2, .int a2), (3, .int a3)] [] S (rz_i K)))) : rz mM_does 55 [(0, .ref 116), (1, .int a1), (2, .int a2), (3, .int a3)] [] S (rz_i K) := by
  refine rz_pure (pc' := 56) d_M_does_55 rfl ?_
  refine rz_iconst (v := 2) d_M_does_56 (by decide) ?_
  refine rz_icmpne (tgt := 95) d_M_does_57 rfl (fun b1 => ?_) (fun b1 => ?_)
  · skip
    exact rz_pick (ks := [0, 1, 2, 3]) (l := [(0, .ref 116), (1, .int a1), (2, .int a2), (3, .int a3)]) rfl rfl (by decide) rfl (w.2 b1)
  · skip
    refine rz_pure (pc' := 61) d_M_does_60 rfl ?_
    refine rz_bipush (v := 85) d_M_does_61 (by decide) ?_
    refine rz_icmpne (tgt := 95) d_M_does_63 rfl (fun b2 => ?_) (fun b2 => ?_)
    · skip
      exact rz_pick (ks := [0, 1, 2, 3]) (l := [(0, .ref 116), (1, .int a1), (2, .int a2), (3, .int a3)]) rfl rfl (by decide) rfl ((w.1 b1).2 b2)
    · skip
      refine rz_pure (pc' := 67) d_M_does_66 rfl ?_
      refine rz_bipush (v := 73) d_M_does_67 (by decide) ?_
      refine rz_icmpne (tgt := 95) d_M_does_69 rfl (fun b3 => ?_) (fun b3 => ?_)
      · skip
        exact rz_pick (ks := [0, 1, 2, 3]) (l := [(0, .ref 116), (1, .int a1), (2, .int a2), (3, .int a3)]) rfl rfl (by decide) rfl (((w.1 b1).1 b2).2 b3)
      · skip
        refine rz_pure (pc' := 73) d_M_does_72 rfl ?_
        refine rz_callVv (t := []) d_M_does_73 w_12_546 rfl rfl rfl (((w.1 b1).1 b2).1 b3) (fun Sq4 q4 => ?_)
        refine rz_pure (pc' := 77) d_M_does_76 rfl ?_
        refine rz_iconst (v := -1) d_M_does_77 (by decide) ?_
        refine rz_puti d_M_does_78 f_12_90 rfl rfl rfl ?_
        refine rz_pure (pc' := 82) d_M_does_81 rfl ?_
        refine rz_iconst (v := -1) d_M_does_82 (by decide) ?_
        refine rz_puti d_M_does_83 f_12_93 rfl rfl rfl ?_
        refine rz_pure (pc' := 87) d_M_does_86 rfl ?_
        refine rz_bipush (v := 73) d_M_does_87 (by decide) ?_
        refine rz_iconst (v := 0) d_M_does_89 (by decide) ?_
        refine rz_iconst (v := 0) d_M_does_90 (by decide) ?_
        refine rz_callVi (t := [.int 0, .int 0, .int 73]) d_M_does_91 w_12_113 rfl rfl rfl q4 (fun xq5 Sq5 q5 => ?_)
        exact rz_ireti d_M_does_94 rfl rfl q5
theorem p_M_does_95 {S : rz_S} {K : Int32 → rz_S → Prop} {a1 : Int32} {a2 : Int32} {a3 : Int32} (w : ((a2 = 78 → rz mM_does 113 [(0, .ref 116), (1, .int a1), (2, .int a2), (3, .int a3)] [] S (rz_i K)) ∧ (¬ a2 = 78 → ((a2 = 83 → rz mM_does 113 [(0, .ref 116), (1, .int a1), (2, .int a2), (3, .int a3)] [] S (rz_i K)) ∧ (¬ a2 = 83 → ((a2 = 82 → rz mM_does 113 [(0, .ref 116), (1, .int a1), (2, .int a2), (3, .int a3)] [] S (rz_i K)) ∧ (¬ a2 = 82 → ((a2 = 85 → ((a3 = 49 → rz mM_does 180 [(0, .ref 116), (1, .int a1), (3, .int a3)] [] S (rz_i K)) ∧ (¬ a3 = 49 → ((a3 = 50 → rz mM_does 180 [(0, .ref 116), (1, .int a1), (3, .int a3)] [] S (rz_i K)) ∧ (¬ a3 = 50 → rz mM_does 197 [(0, .ref 116), (1, .int a1)] [] S (rz_i K)))))) ∧ (¬ a2 = 85 → rz mM_does 197 [(0, .ref 116), (1, .int a1)] [] S (rz_i K)))))))))) : rz mM_does 95 [(0, .ref 116), (1, .int a1), (2, .int a2), (3, .int a3)] [] S (rz_i K) := by
  refine rz_pure (pc' := 96) d_M_does_95 rfl ?_
  refine rz_bipush (v := 78) d_M_does_96 (by decide) ?_
  refine rz_icmpeq (tgt := 113) d_M_does_98 rfl (fun b1 => ?_) (fun b1 => ?_)
  · skip
    exact rz_pick (ks := [0, 1, 2, 3]) (l := [(0, .ref 116), (1, .int a1), (2, .int a2), (3, .int a3)]) rfl rfl (by decide) rfl (w.1 b1)
  · skip
    refine rz_pure (pc' := 102) d_M_does_101 rfl ?_
    refine rz_bipush (v := 83) d_M_does_102 (by decide) ?_
    refine rz_icmpeq (tgt := 113) d_M_does_104 rfl (fun b2 => ?_) (fun b2 => ?_)
    · skip
      exact rz_pick (ks := [0, 1, 2, 3]) (l := [(0, .ref 116), (1, .int a1), (2, .int a2), (3, .int a3)]) rfl rfl (by decide) rfl ((w.2 b1).1 b2)
    · skip
      refine rz_pure (pc' := 108) d_M_does_107 rfl ?_
      refine rz_bipush (v := 82) d_M_does_108 (by decide) ?_
      refine rz_icmpne (tgt := 162) d_M_does_110 rfl (fun b3 => ?_) (fun b3 => ?_)
      · skip
        refine rz_pure (pc' := 163) d_M_does_162 rfl ?_
        refine rz_bipush (v := 85) d_M_does_163 (by decide) ?_
        refine rz_icmpne (tgt := 197) d_M_does_165 rfl (fun b4 => ?_) (fun b4 => ?_)
        · skip
          exact rz_pick (ks := [0, 1]) (l := [(0, .ref 116), (1, .int a1)]) rfl rfl (by decide) rfl ((((w.2 b1).2 b2).2 b3).2 b4)
        · skip
          refine rz_pure (pc' := 169) d_M_does_168 rfl ?_
          refine rz_bipush (v := 49) d_M_does_169 (by decide) ?_
          refine rz_icmpeq (tgt := 180) d_M_does_171 rfl (fun b5 => ?_) (fun b5 => ?_)
          · skip
            exact rz_pick (ks := [0, 1, 3]) (l := [(0, .ref 116), (1, .int a1), (3, .int a3)]) rfl rfl (by decide) rfl (((((w.2 b1).2 b2).2 b3).1 b4).1 b5)
          · skip
            refine rz_pure (pc' := 175) d_M_does_174 rfl ?_
            refine rz_bipush (v := 50) d_M_does_175 (by decide) ?_
            refine rz_icmpne (tgt := 197) d_M_does_177 rfl (fun b6 => ?_) (fun b6 => ?_)
            · skip
              exact rz_pick (ks := [0, 1]) (l := [(0, .ref 116), (1, .int a1)]) rfl rfl (by decide) rfl ((((((w.2 b1).2 b2).2 b3).1 b4).2 b5).2 b6)
            · skip
              exact rz_pick (ks := [0, 1, 3]) (l := [(0, .ref 116), (1, .int a1), (3, .int a3)]) rfl rfl (by decide) rfl ((((((w.2 b1).2 b2).2 b3).1 b4).2 b5).1 b6)
      · skip
        exact rz_pick (ks := [0, 1, 2, 3]) (l := [(0, .ref 116), (1, .int a1), (2, .int a2), (3, .int a3)]) rfl rfl (by decide) rfl (((w.2 b1).2 b2).1 b3)
theorem p_M_does_113 {S : rz_S} {K : Int32 → rz_S → Prop} {a1 : Int32} {a2 : Int32} {a3 : Int32} (w : ((a3 = 58 → ((a2 = 78 → rz_ev mM_news [.ref 116, .int a1] S (rz_i (fun xq6 Sq6 => K xq6 Sq6))) ∧ (¬ a2 = 78 → ((a2 = 83 → rz_ev mM_scratch [.ref 116, .int a1] S (rz_i (fun xq5 Sq5 => K xq5 Sq5))) ∧ (¬ a2 = 83 → rz_ev mM_renames [.ref 116, .int a1] S (rz_i (fun xq4 Sq4 => K xq4 Sq4))))))) ∧ (¬ a3 = 58 → rz_ev mM_fault [.ref 116, .int 30, .int 0, .int 0] S (rz_i (fun xq7 Sq7 => K xq7 Sq7))))) : rz mM_does 113 [(0, .ref 116), (1, .int a1), (2, .int a2), (3, .int a3)] [] S (rz_i K) := by
  refine rz_pure (pc' := 114) d_M_does_113 rfl ?_
  refine rz_bipush (v := 58) d_M_does_114 (by decide) ?_
  refine rz_icmpeq (tgt := 128) d_M_does_116 rfl (fun b1 => ?_) (fun b1 => ?_)
  · skip
    refine rz_pure (pc' := 129) d_M_does_128 rfl ?_
    refine rz_bipush (v := 78) d_M_does_129 (by decide) ?_
    refine rz_icmpne (tgt := 142) d_M_does_131 rfl (fun b2 => ?_) (fun b2 => ?_)
    · skip
      refine rz_pure (pc' := 143) d_M_does_142 rfl ?_
      refine rz_bipush (v := 83) d_M_does_143 (by decide) ?_
      refine rz_icmpne (tgt := 156) d_M_does_145 rfl (fun b3 => ?_) (fun b3 => ?_)
      · skip
        refine rz_pure (pc' := 157) d_M_does_156 rfl ?_
        refine rz_pure (pc' := 158) d_M_does_157 rfl ?_
        refine rz_callVi (t := [.int a1]) d_M_does_158 w_12_555 rfl rfl rfl (((w.1 b1).2 b2).2 b3) (fun xq4 Sq4 q4 => ?_)
        exact rz_ireti d_M_does_161 rfl rfl q4
      · skip
        refine rz_pure (pc' := 149) d_M_does_148 rfl ?_
        refine rz_pure (pc' := 150) d_M_does_149 rfl ?_
        refine rz_callVi (t := [.int a1]) d_M_does_150 w_12_552 rfl rfl rfl (((w.1 b1).2 b2).1 b3) (fun xq5 Sq5 q5 => ?_)
        refine rz_pure (pc' := 161) d_M_does_153 rfl ?_
        exact rz_ireti d_M_does_161 rfl rfl q5
    · skip
      refine rz_pure (pc' := 135) d_M_does_134 rfl ?_
      refine rz_pure (pc' := 136) d_M_does_135 rfl ?_
      refine rz_callVi (t := [.int a1]) d_M_does_136 w_12_549 rfl rfl rfl ((w.1 b1).1 b2) (fun xq6 Sq6 q6 => ?_)
      refine rz_pure (pc' := 161) d_M_does_139 rfl ?_
      exact rz_ireti d_M_does_161 rfl rfl q6
  · skip
    refine rz_pure (pc' := 120) d_M_does_119 rfl ?_
    refine rz_bipush (v := 30) d_M_does_120 (by decide) ?_
    refine rz_iconst (v := 0) d_M_does_122 (by decide) ?_
    refine rz_iconst (v := 0) d_M_does_123 (by decide) ?_
    refine rz_callVi (t := [.int 0, .int 0, .int 30]) d_M_does_124 w_12_113 rfl rfl rfl (w.2 b1) (fun xq7 Sq7 q7 => ?_)
    exact rz_ireti d_M_does_127 rfl rfl q7
theorem p_M_does_197 {S : rz_S} {K : Int32 → rz_S → Prop} {a1 : Int32} (w : ((3 ≤ a1 → rz_ev mM_begins3 [.ref 116, .int 66, .int 45, .int 80] S (rz_i (fun xq2 Sq2 => ((xq2 = 0 → rz_ev mM_begins3 [.ref 116, .int 66, .int 45, .int 65] Sq2 (rz_i (fun xq4 Sq4 => ((xq4 = 0 → rz_ev mM_begins3 [.ref 116, .int 66, .int 45, .int 70] Sq4 (rz_i (fun xq6 Sq6 => ((xq6 = 0 → rz_ev mM_begins3 [.ref 116, .int 77, .int 45, .int 87] Sq6 (rz_i (fun xq8 Sq8 => ((xq8 = 0 → rz_ev mM_begins3 [.ref 116, .int 77, .int 45, .int 82] Sq8 (rz_i (fun xq10 Sq10 => ((xq10 = 0 → rz_ev mM_begins3 [.ref 116, .int 77, .int 45, .int 69] Sq10 (rz_i (fun xq12 Sq12 => ((xq12 = 0 → rz_ev mM_fault [.ref 116, .int 31, .int 0, .int 0] Sq12 (rz_i (fun xq14 Sq14 => K xq14 Sq14))) ∧ (¬ xq12 = 0 → rz mM_does 307 [(0, .ref 116), (1, .int a1)] [] Sq12 (rz_i K)))))) ∧ (¬ xq10 = 0 → rz mM_does 307 [(0, .ref 116), (1, .int a1)] [] Sq10 (rz_i K)))))) ∧ (¬ xq8 = 0 → rz mM_does 307 [(0, .ref 116), (1, .int a1)] [] Sq8 (rz_i K)))))) ∧ (¬ xq6 = 0 → rz_ev mM_frees [.ref 116, .int a1] Sq6 (rz_i (fun xq15 Sq15 => K xq15 Sq15))))))) ∧ (¬ xq4 = 0 → rz_ev mM_allocates [.ref 116, .int a1] Sq4 (rz_i (fun xq16 Sq16 => K xq16 Sq16))))))) ∧ (¬ xq2 = 0 → rz_ev mM_pointer [.ref 116, .int a1] Sq2 (rz_i (fun xq17 Sq17 => K xq17 Sq17))))))) ∧ (¬ 3 ≤ a1 → rz_ev mM_fault [.ref 116, .int 31, .int 0, .int 0] S (rz_i (fun xq18 Sq18 => K xq18 Sq18))))) : rz mM_does 197 [(0, .ref 116), (1, .int a1)] [] S (rz_i K) := by
  refine rz_pure (pc' := 198) d_M_does_197 rfl ?_
  refine rz_iconst (v := 3) d_M_does_198 (by decide) ?_
  refine rz_icmpge (tgt := 211) d_M_does_199 rfl (fun b1 => ?_) (fun b1 => ?_)
  · skip
    refine rz_pure (pc' := 212) d_M_does_211 rfl ?_
    refine rz_bipush (v := 66) d_M_does_212 (by decide) ?_
    refine rz_bipush (v := 45) d_M_does_214 (by decide) ?_
    refine rz_bipush (v := 80) d_M_does_216 (by decide) ?_
    refine rz_callVi (t := [.int 80, .int 45, .int 66]) d_M_does_218 w_12_562 rfl rfl rfl (w.1 b1) (fun xq2 Sq2 q2 => ?_)
    refine rz_ifeq (tgt := 230) d_M_does_221 rfl (fun b3 => ?_) (fun b3 => ?_)
    · skip
      refine rz_pure (pc' := 231) d_M_does_230 rfl ?_
      refine rz_bipush (v := 66) d_M_does_231 (by decide) ?_
      refine rz_bipush (v := 45) d_M_does_233 (by decide) ?_
      refine rz_bipush (v := 65) d_M_does_235 (by decide) ?_
      refine rz_callVi (t := [.int 65, .int 45, .int 66]) d_M_does_237 w_12_562 rfl rfl rfl (q2.1 b3) (fun xq4 Sq4 q4 => ?_)
      refine rz_ifeq (tgt := 249) d_M_does_240 rfl (fun b5 => ?_) (fun b5 => ?_)
      · skip
        refine rz_pure (pc' := 250) d_M_does_249 rfl ?_
        refine rz_bipush (v := 66) d_M_does_250 (by decide) ?_
        refine rz_bipush (v := 45) d_M_does_252 (by decide) ?_
        refine rz_bipush (v := 70) d_M_does_254 (by decide) ?_
        refine rz_callVi (t := [.int 70, .int 45, .int 66]) d_M_does_256 w_12_562 rfl rfl rfl (q4.1 b5) (fun xq6 Sq6 q6 => ?_)
        refine rz_ifeq (tgt := 268) d_M_does_259 rfl (fun b7 => ?_) (fun b7 => ?_)
        · skip
          refine rz_pure (pc' := 269) d_M_does_268 rfl ?_
          refine rz_bipush (v := 77) d_M_does_269 (by decide) ?_
          refine rz_bipush (v := 45) d_M_does_271 (by decide) ?_
          refine rz_bipush (v := 87) d_M_does_273 (by decide) ?_
          refine rz_callVi (t := [.int 87, .int 45, .int 77]) d_M_does_275 w_12_562 rfl rfl rfl (q6.1 b7) (fun xq8 Sq8 q8 => ?_)
          refine rz_ifne (tgt := 307) d_M_does_278 rfl (fun b9 => ?_) (fun b9 => ?_)
          · skip
            exact rz_pick (ks := [0, 1]) (l := [(0, .ref 116), (1, .int a1)]) rfl rfl (by decide) rfl (q8.2 b9)
          · skip
            refine rz_pure (pc' := 282) d_M_does_281 rfl ?_
            refine rz_bipush (v := 77) d_M_does_282 (by decide) ?_
            refine rz_bipush (v := 45) d_M_does_284 (by decide) ?_
            refine rz_bipush (v := 82) d_M_does_286 (by decide) ?_
            refine rz_callVi (t := [.int 82, .int 45, .int 77]) d_M_does_288 w_12_562 rfl rfl rfl (q8.1 b9) (fun xq10 Sq10 q10 => ?_)
            refine rz_ifne (tgt := 307) d_M_does_291 rfl (fun b11 => ?_) (fun b11 => ?_)
            · skip
              exact rz_pick (ks := [0, 1]) (l := [(0, .ref 116), (1, .int a1)]) rfl rfl (by decide) rfl (q10.2 b11)
            · skip
              refine rz_pure (pc' := 295) d_M_does_294 rfl ?_
              refine rz_bipush (v := 77) d_M_does_295 (by decide) ?_
              refine rz_bipush (v := 45) d_M_does_297 (by decide) ?_
              refine rz_bipush (v := 69) d_M_does_299 (by decide) ?_
              refine rz_callVi (t := [.int 69, .int 45, .int 77]) d_M_does_301 w_12_562 rfl rfl rfl (q10.1 b11) (fun xq12 Sq12 q12 => ?_)
              refine rz_ifeq (tgt := 313) d_M_does_304 rfl (fun b13 => ?_) (fun b13 => ?_)
              · skip
                refine rz_pure (pc' := 314) d_M_does_313 rfl ?_
                refine rz_bipush (v := 31) d_M_does_314 (by decide) ?_
                refine rz_iconst (v := 0) d_M_does_316 (by decide) ?_
                refine rz_iconst (v := 0) d_M_does_317 (by decide) ?_
                refine rz_callVi (t := [.int 0, .int 0, .int 31]) d_M_does_318 w_12_113 rfl rfl rfl (q12.1 b13) (fun xq14 Sq14 q14 => ?_)
                exact rz_ireti d_M_does_321 rfl rfl q14
              · skip
                exact rz_pick (ks := [0, 1]) (l := [(0, .ref 116), (1, .int a1)]) rfl rfl (by decide) rfl (q12.2 b13)
        · skip
          refine rz_pure (pc' := 263) d_M_does_262 rfl ?_
          refine rz_pure (pc' := 264) d_M_does_263 rfl ?_
          refine rz_callVi (t := [.int a1]) d_M_does_264 w_12_572 rfl rfl rfl (q6.2 b7) (fun xq15 Sq15 q15 => ?_)
          exact rz_ireti d_M_does_267 rfl rfl q15
      · skip
        refine rz_pure (pc' := 244) d_M_does_243 rfl ?_
        refine rz_pure (pc' := 245) d_M_does_244 rfl ?_
        refine rz_callVi (t := [.int a1]) d_M_does_245 w_12_569 rfl rfl rfl (q4.2 b5) (fun xq16 Sq16 q16 => ?_)
        exact rz_ireti d_M_does_248 rfl rfl q16
    · skip
      refine rz_pure (pc' := 225) d_M_does_224 rfl ?_
      refine rz_pure (pc' := 226) d_M_does_225 rfl ?_
      refine rz_callVi (t := [.int a1]) d_M_does_226 w_12_566 rfl rfl rfl (q2.2 b3) (fun xq17 Sq17 q17 => ?_)
      exact rz_ireti d_M_does_229 rfl rfl q17
  · skip
    refine rz_pure (pc' := 203) d_M_does_202 rfl ?_
    refine rz_bipush (v := 31) d_M_does_203 (by decide) ?_
    refine rz_iconst (v := 0) d_M_does_205 (by decide) ?_
    refine rz_iconst (v := 0) d_M_does_206 (by decide) ?_
    refine rz_callVi (t := [.int 0, .int 0, .int 31]) d_M_does_207 w_12_113 rfl rfl rfl (w.2 b1) (fun xq18 Sq18 q18 => ?_)
    exact rz_ireti d_M_does_210 rfl rfl q18
theorem p_M_does_180 {S : rz_S} {K : Int32 → rz_S → Prop} {a1 : Int32} {a3 : Int32} (w : ((a3 = 50 → rz mM_does 193 [] [.int 1, .int a1, .ref 116] S (rz_i K)) ∧ (¬ a3 = 50 → rz mM_does 193 [] [.int 0, .int a1, .ref 116] S (rz_i K)))) : rz mM_does 180 [(0, .ref 116), (1, .int a1), (3, .int a3)] [] S (rz_i K) := by
  refine rz_pure (pc' := 181) d_M_does_180 rfl ?_
  refine rz_pure (pc' := 182) d_M_does_181 rfl ?_
  refine rz_pure (pc' := 183) d_M_does_182 rfl ?_
  refine rz_bipush (v := 50) d_M_does_183 (by decide) ?_
  refine rz_icmpne (tgt := 192) d_M_does_185 rfl (fun b1 => ?_) (fun b1 => ?_)
  · skip
    refine rz_iconst (v := 0) d_M_does_192 (by decide) ?_
    exact rz_pick (ks := []) (l := []) rfl rfl (by decide) rfl (w.2 b1)
  · skip
    refine rz_iconst (v := 1) d_M_does_188 (by decide) ?_
    refine rz_pure (pc' := 193) d_M_does_189 rfl ?_
    exact rz_pick (ks := []) (l := []) rfl rfl (by decide) rfl (w.1 b1)
theorem p_M_does_307 {S : rz_S} {K : Int32 → rz_S → Prop} {a1 : Int32} (w : rz_ev mM_memories [.ref 116, .int a1] S (rz_i (fun xq1 Sq1 => K xq1 Sq1))) : rz mM_does 307 [(0, .ref 116), (1, .int a1)] [] S (rz_i K) := by
  refine rz_pure (pc' := 308) d_M_does_307 rfl ?_
  refine rz_pure (pc' := 309) d_M_does_308 rfl ?_
  refine rz_callVi (t := [.int a1]) d_M_does_309 w_12_575 rfl rfl rfl w (fun xq1 Sq1 q1 => ?_)
  exact rz_ireti d_M_does_312 rfl rfl q1
theorem p_M_does_193 {S : rz_S} {K : Int32 → rz_S → Prop} {s0 : Int32} {s1 : Int32} (w : rz_ev mM_blockOf [.ref 116, .int s1, .int s0] S (rz_i (fun xq1 Sq1 => K xq1 Sq1))) : rz mM_does 193 [] [.int s0, .int s1, .ref 116] S (rz_i K) := by
  refine rz_callVi (t := [.int s0, .int s1]) d_M_does_193 w_12_558 rfl rfl rfl w (fun xq1 Sq1 q1 => ?_)
  exact rz_ireti d_M_does_196 rfl rfl q1
theorem d_M_again_0 : decode (rm_code mM_again) 0 = .ok (.aload_n 0, 1) := by decide +kernel
theorem d_M_again_1 : decode (rm_code mM_again) 1 = .ok (.invokevirtual 107, 3) := by decide +kernel
theorem d_M_again_4 : decode (rm_code mM_again) 4 = .ok (.istore_n 1, 1) := by decide +kernel
theorem d_M_again_5 : decode (rm_code mM_again) 5 = .ok (.iload_n 1, 1) := by decide +kernel
theorem d_M_again_6 : decode (rm_code mM_again) 6 = .ok (.ifCond .eq (7), 3) := by decide +kernel
theorem d_M_again_9 : decode (rm_code mM_again) 9 = .ok (.iload_n 1, 1) := by decide +kernel
theorem d_M_again_10 : decode (rm_code mM_again) 10 = .ok (.goto (7), 3) := by decide +kernel
theorem d_M_again_13 : decode (rm_code mM_again) 13 = .ok (.aload_n 0, 1) := by decide +kernel
theorem d_M_again_14 : decode (rm_code mM_again) 14 = .ok (.invokevirtual 180, 3) := by decide +kernel
theorem d_M_again_17 : decode (rm_code mM_again) 17 = .ok (.ireturn, 1) := by decide +kernel
theorem p_M_again_0 {S : rz_S} {K : Int32 → rz_S → Prop} (w : rz_ev mM_takeId [.ref 116] S (rz_i (fun xq1 Sq1 => ((xq1 = 0 → rz_ev mM_loads [.ref 116] Sq1 (rz_i (fun xq3 Sq3 => K xq3 Sq3))) ∧ (¬ xq1 = 0 → K xq1 Sq1))))) : rz mM_again 0 [(0, .ref 116)] [] S (rz_i K) := by
  refine rz_pure (pc' := 1) d_M_again_0 rfl ?_
  refine rz_callVi (t := []) d_M_again_1 w_12_107 rfl rfl rfl w (fun xq1 Sq1 q1 => ?_)
  refine rz_pure (pc' := 5) (l' := [(1, .int xq1), (0, .ref 116)]) d_M_again_4 rfl ?_
  refine rz_pure (pc' := 6) d_M_again_5 rfl ?_
  refine rz_ifeq (tgt := 13) d_M_again_6 rfl (fun b2 => ?_) (fun b2 => ?_)
  · skip
    refine rz_pure (pc' := 14) d_M_again_13 rfl ?_
    refine rz_callVi (t := []) d_M_again_14 w_12_180 rfl rfl rfl (q1.1 b2) (fun xq3 Sq3 q3 => ?_)
    exact rz_ireti d_M_again_17 rfl rfl q3
  · skip
    refine rz_pure (pc' := 10) d_M_again_9 rfl ?_
    refine rz_pure (pc' := 17) d_M_again_10 rfl ?_
    exact rz_ireti d_M_again_17 rfl rfl (q1.2 b2)
theorem d_M_news_0 : decode (rm_code mM_news) 0 = .ok (.iconst 2, 1) := by decide +kernel
theorem d_M_news_1 : decode (rm_code mM_news) 1 = .ok (.istore_n 2, 1) := by decide +kernel
theorem d_M_news_2 : decode (rm_code mM_news) 2 = .ok (.iload_n 2, 1) := by decide +kernel
theorem d_M_news_3 : decode (rm_code mM_news) 3 = .ok (.iload_n 1, 1) := by decide +kernel
theorem d_M_news_4 : decode (rm_code mM_news) 4 = .ok (.if_icmp .ge (21), 3) := by decide +kernel
theorem d_M_news_7 : decode (rm_code mM_news) 7 = .ok (.aload_n 0, 1) := by decide +kernel
theorem d_M_news_8 : decode (rm_code mM_news) 8 = .ok (.getfield 260, 3) := by decide +kernel
theorem d_M_news_11 : decode (rm_code mM_news) 11 = .ok (.iload_n 2, 1) := by decide +kernel
theorem d_M_news_12 : decode (rm_code mM_news) 12 = .ok (.iaload, 1) := by decide +kernel
theorem d_M_news_13 : decode (rm_code mM_news) 13 = .ok (.bipush (44), 2) := by decide +kernel
theorem d_M_news_15 : decode (rm_code mM_news) 15 = .ok (.if_icmp .eq (10), 3) := by decide +kernel
theorem d_M_news_18 : decode (rm_code mM_news) 18 = .ok (.iload_n 2, 1) := by decide +kernel
theorem d_M_news_19 : decode (rm_code mM_news) 19 = .ok (.iconst 1, 1) := by decide +kernel
theorem d_M_news_20 : decode (rm_code mM_news) 20 = .ok (.iadd, 1) := by decide +kernel
theorem d_M_news_21 : decode (rm_code mM_news) 21 = .ok (.istore_n 2, 1) := by decide +kernel
theorem d_M_news_22 : decode (rm_code mM_news) 22 = .ok (.goto (-20), 3) := by decide +kernel
theorem d_M_news_25 : decode (rm_code mM_news) 25 = .ok (.iload_n 2, 1) := by decide +kernel
theorem d_M_news_26 : decode (rm_code mM_news) 26 = .ok (.iconst 2, 1) := by decide +kernel
theorem d_M_news_27 : decode (rm_code mM_news) 27 = .ok (.isub, 1) := by decide +kernel
theorem d_M_news_28 : decode (rm_code mM_news) 28 = .ok (.istore_n 3, 1) := by decide +kernel
theorem d_M_news_29 : decode (rm_code mM_news) 29 = .ok (.iload_n 2, 1) := by decide +kernel
theorem d_M_news_30 : decode (rm_code mM_news) 30 = .ok (.iload_n 1, 1) := by decide +kernel
theorem d_M_news_31 : decode (rm_code mM_news) 31 = .ok (.if_icmp .ge (7), 3) := by decide +kernel
theorem d_M_news_34 : decode (rm_code mM_news) 34 = .ok (.iconst 1, 1) := by decide +kernel
theorem d_M_news_35 : decode (rm_code mM_news) 35 = .ok (.goto (4), 3) := by decide +kernel
theorem d_M_news_38 : decode (rm_code mM_news) 38 = .ok (.iconst 0, 1) := by decide +kernel
theorem d_M_news_39 : decode (rm_code mM_news) 39 = .ok (.istore 4, 2) := by decide +kernel
theorem d_M_news_41 : decode (rm_code mM_news) 41 = .ok (.iload_n 3, 1) := by decide +kernel
theorem d_M_news_42 : decode (rm_code mM_news) 42 = .ok (.ifCond .eq (21), 3) := by decide +kernel
theorem d_M_news_45 : decode (rm_code mM_news) 45 = .ok (.iload_n 3, 1) := by decide +kernel
theorem d_M_news_46 : decode (rm_code mM_news) 46 = .ok (.bipush (10), 2) := by decide +kernel
theorem d_M_news_48 : decode (rm_code mM_news) 48 = .ok (.if_icmp .gt (15), 3) := by decide +kernel
theorem d_M_news_51 : decode (rm_code mM_news) 51 = .ok (.iload 4, 2) := by decide +kernel
theorem d_M_news_53 : decode (rm_code mM_news) 53 = .ok (.ifCond .eq (19), 3) := by decide +kernel
theorem d_M_news_56 : decode (rm_code mM_news) 56 = .ok (.iload_n 1, 1) := by decide +kernel
theorem d_M_news_57 : decode (rm_code mM_news) 57 = .ok (.iload_n 2, 1) := by decide +kernel
theorem d_M_news_58 : decode (rm_code mM_news) 58 = .ok (.isub, 1) := by decide +kernel
theorem d_M_news_59 : decode (rm_code mM_news) 59 = .ok (.iconst 3, 1) := by decide +kernel
theorem d_M_news_60 : decode (rm_code mM_news) 60 = .ok (.if_icmp .eq (12), 3) := by decide +kernel
theorem d_M_news_63 : decode (rm_code mM_news) 63 = .ok (.aload_n 0, 1) := by decide +kernel
theorem d_M_news_64 : decode (rm_code mM_news) 64 = .ok (.bipush (30), 2) := by decide +kernel
theorem d_M_news_66 : decode (rm_code mM_news) 66 = .ok (.iconst 0, 1) := by decide +kernel
theorem d_M_news_67 : decode (rm_code mM_news) 67 = .ok (.iconst 0, 1) := by decide +kernel
theorem d_M_news_68 : decode (rm_code mM_news) 68 = .ok (.invokevirtual 113, 3) := by decide +kernel
theorem d_M_news_71 : decode (rm_code mM_news) 71 = .ok (.ireturn, 1) := by decide +kernel
theorem d_M_news_72 : decode (rm_code mM_news) 72 = .ok (.aload_n 0, 1) := by decide +kernel
theorem d_M_news_73 : decode (rm_code mM_news) 73 = .ok (.iconst 2, 1) := by decide +kernel
theorem d_M_news_74 : decode (rm_code mM_news) 74 = .ok (.iload_n 3, 1) := by decide +kernel
theorem d_M_news_75 : decode (rm_code mM_news) 75 = .ok (.invokevirtual 332, 3) := by decide +kernel
theorem d_M_news_78 : decode (rm_code mM_news) 78 = .ok (.ifCond .eq (12), 3) := by decide +kernel
theorem d_M_news_81 : decode (rm_code mM_news) 81 = .ok (.aload_n 0, 1) := by decide +kernel
theorem d_M_news_82 : decode (rm_code mM_news) 82 = .ok (.bipush (33), 2) := by decide +kernel
theorem d_M_news_84 : decode (rm_code mM_news) 84 = .ok (.iconst 0, 1) := by decide +kernel
theorem d_M_news_85 : decode (rm_code mM_news) 85 = .ok (.iconst 0, 1) := by decide +kernel
theorem d_M_news_86 : decode (rm_code mM_news) 86 = .ok (.invokevirtual 113, 3) := by decide +kernel
theorem d_M_news_89 : decode (rm_code mM_news) 89 = .ok (.ireturn, 1) := by decide +kernel
theorem d_M_news_90 : decode (rm_code mM_news) 90 = .ok (.iload 4, 2) := by decide +kernel
theorem d_M_news_92 : decode (rm_code mM_news) 92 = .ok (.ifCond .eq (75), 3) := by decide +kernel
theorem d_M_news_95 : decode (rm_code mM_news) 95 = .ok (.aload_n 0, 1) := by decide +kernel
theorem d_M_news_96 : decode (rm_code mM_news) 96 = .ok (.invokevirtual 546, 3) := by decide +kernel
theorem d_M_news_99 : decode (rm_code mM_news) 99 = .ok (.aload_n 0, 1) := by decide +kernel
theorem d_M_news_100 : decode (rm_code mM_news) 100 = .ok (.getfield 260, 3) := by decide +kernel
theorem d_M_news_103 : decode (rm_code mM_news) 103 = .ok (.iload_n 2, 1) := by decide +kernel
theorem d_M_news_104 : decode (rm_code mM_news) 104 = .ok (.iconst 1, 1) := by decide +kernel
theorem d_M_news_105 : decode (rm_code mM_news) 105 = .ok (.iadd, 1) := by decide +kernel
theorem d_M_news_106 : decode (rm_code mM_news) 106 = .ok (.iaload, 1) := by decide +kernel
theorem d_M_news_107 : decode (rm_code mM_news) 107 = .ok (.istore 5, 2) := by decide +kernel
theorem d_M_news_109 : decode (rm_code mM_news) 109 = .ok (.aload_n 0, 1) := by decide +kernel
theorem d_M_news_110 : decode (rm_code mM_news) 110 = .ok (.getfield 260, 3) := by decide +kernel
theorem d_M_news_113 : decode (rm_code mM_news) 113 = .ok (.iload_n 2, 1) := by decide +kernel
theorem d_M_news_114 : decode (rm_code mM_news) 114 = .ok (.iconst 2, 1) := by decide +kernel
theorem d_M_news_115 : decode (rm_code mM_news) 115 = .ok (.iadd, 1) := by decide +kernel
theorem d_M_news_116 : decode (rm_code mM_news) 116 = .ok (.iaload, 1) := by decide +kernel
theorem d_M_news_117 : decode (rm_code mM_news) 117 = .ok (.istore 6, 2) := by decide +kernel
theorem d_M_news_119 : decode (rm_code mM_news) 119 = .ok (.bipush (12), 2) := by decide +kernel
theorem d_M_news_121 : decode (rm_code mM_news) 121 = .ok (.istore 7, 2) := by decide +kernel
theorem d_M_news_123 : decode (rm_code mM_news) 123 = .ok (.iload 7, 2) := by decide +kernel
theorem d_M_news_125 : decode (rm_code mM_news) 125 = .ok (.iconst 1, 1) := by decide +kernel
theorem d_M_news_126 : decode (rm_code mM_news) 126 = .ok (.if_icmp .lt (29), 3) := by decide +kernel
theorem d_M_news_129 : decode (rm_code mM_news) 129 = .ok (.aload_n 0, 1) := by decide +kernel
theorem d_M_news_130 : decode (rm_code mM_news) 130 = .ok (.iload 7, 2) := by decide +kernel
theorem d_M_news_132 : decode (rm_code mM_news) 132 = .ok (.iload 5, 2) := by decide +kernel
theorem d_M_news_134 : decode (rm_code mM_news) 134 = .ok (.iload 6, 2) := by decide +kernel
theorem d_M_news_136 : decode (rm_code mM_news) 136 = .ok (.invokevirtual 578, 3) := by decide +kernel
theorem d_M_news_139 : decode (rm_code mM_news) 139 = .ok (.istore 8, 2) := by decide +kernel
theorem d_M_news_141 : decode (rm_code mM_news) 141 = .ok (.iload 8, 2) := by decide +kernel
theorem d_M_news_143 : decode (rm_code mM_news) 143 = .ok (.ifCond .eq (6), 3) := by decide +kernel
theorem d_M_news_146 : decode (rm_code mM_news) 146 = .ok (.iload 8, 2) := by decide +kernel
theorem d_M_news_148 : decode (rm_code mM_news) 148 = .ok (.ireturn, 1) := by decide +kernel
theorem d_M_news_149 : decode (rm_code mM_news) 149 = .ok (.iinc 7 (-1), 3) := by decide +kernel
theorem d_M_news_152 : decode (rm_code mM_news) 152 = .ok (.goto (-29), 3) := by decide +kernel
theorem d_M_news_155 : decode (rm_code mM_news) 155 = .ok (.aload_n 0, 1) := by decide +kernel
theorem d_M_news_156 : decode (rm_code mM_news) 156 = .ok (.iload 5, 2) := by decide +kernel
theorem d_M_news_158 : decode (rm_code mM_news) 158 = .ok (.putfield 90, 3) := by decide +kernel
theorem d_M_news_161 : decode (rm_code mM_news) 161 = .ok (.aload_n 0, 1) := by decide +kernel
theorem d_M_news_162 : decode (rm_code mM_news) 162 = .ok (.iload 6, 2) := by decide +kernel
theorem d_M_news_164 : decode (rm_code mM_news) 164 = .ok (.putfield 93, 3) := by decide +kernel
theorem d_M_news_167 : decode (rm_code mM_news) 167 = .ok (.aload_n 0, 1) := by decide +kernel
theorem d_M_news_168 : decode (rm_code mM_news) 168 = .ok (.iload_n 3, 1) := by decide +kernel
theorem d_M_news_169 : decode (rm_code mM_news) 169 = .ok (.invokevirtual 581, 3) := by decide +kernel
theorem d_M_news_172 : decode (rm_code mM_news) 172 = .ok (.ireturn, 1) := by decide +kernel
theorem p_M_news_0 {S : rz_S} {K : Int32 → rz_S → Prop} {a1 : Int32} (w : rz mM_news 2 [(0, .ref 116), (1, .int a1), (2, .int 2)] [] S (rz_i K)) : rz mM_news 0 [(0, .ref 116), (1, .int a1)] [] S (rz_i K) := by
  refine rz_iconst (v := 2) d_M_news_0 (by decide) ?_
  refine rz_pure (pc' := 2) (l' := [(2, .int 2), (0, .ref 116), (1, .int a1)]) d_M_news_1 rfl ?_
  exact rz_pick (ks := [0, 1, 2]) (l := [(0, .ref 116), (1, .int a1), (2, .int 2)]) rfl rfl (by decide) rfl w
theorem p_M_news_2 {S : rz_S} {K : Int32 → rz_S → Prop} {a1 : Int32} {a2 : Int32} (w : ((a1 ≤ a2 → rz mM_news 25 [(0, .ref 116), (1, .int a1), (2, .int a2)] [] S (rz_i K)) ∧ (¬ a1 ≤ a2 → rx_in a2 401 = true ∧ ((S.1 151 a2.toNatClampNeg = 44 → rz mM_news 25 [(0, .ref 116), (1, .int a1), (2, .int a2)] [] S (rz_i K)) ∧ (¬ S.1 151 a2.toNatClampNeg = 44 → rz mM_news 2 [(0, .ref 116), (1, .int a1), (2, .int (a2 + 1))] [] S (rz_i K)))))) : rz mM_news 2 [(0, .ref 116), (1, .int a1), (2, .int a2)] [] S (rz_i K) := by
  refine rz_pure (pc' := 3) d_M_news_2 rfl ?_
  refine rz_pure (pc' := 4) d_M_news_3 rfl ?_
  refine rz_icmpge (tgt := 25) d_M_news_4 rfl (fun b1 => ?_) (fun b1 => ?_)
  · skip
    exact rz_pick (ks := [0, 1, 2]) (l := [(0, .ref 116), (1, .int a1), (2, .int a2)]) rfl rfl (by decide) rfl (w.1 b1)
  · skip
    refine rz_pure (pc' := 8) d_M_news_7 rfl ?_
    refine rz_getr d_M_news_8 f_12_260 rfl rfl ?_
    refine rz_pure (pc' := 12) d_M_news_11 rfl ?_
    refine rz_ialdv (F := S.1 151) (i := a2.toNatClampNeg) d_M_news_12 rfl (w.2 b1).1 rfl rfl ?_
    refine rz_bipush (v := 44) d_M_news_13 (by decide) ?_
    refine rz_icmpeq (tgt := 25) d_M_news_15 rfl (fun b2 => ?_) (fun b2 => ?_)
    · skip
      exact rz_pick (ks := [0, 1, 2]) (l := [(0, .ref 116), (1, .int a1), (2, .int a2)]) rfl rfl (by decide) rfl ((w.2 b1).2.1 b2)
    · skip
      refine rz_pure (pc' := 19) d_M_news_18 rfl ?_
      refine rz_iconst (v := 1) d_M_news_19 (by decide) ?_
      refine rz_iadd d_M_news_20 ?_
      refine rz_pure (pc' := 22) (l' := [(2, .int (a2 + 1)), (0, .ref 116), (1, .int a1)]) d_M_news_21 rfl ?_
      refine rz_pure (pc' := 2) d_M_news_22 rfl ?_
      exact rz_pick (ks := [0, 1, 2]) (l := [(0, .ref 116), (1, .int a1), (2, .int (a2 + 1))]) rfl rfl (by decide) rfl ((w.2 b1).2.2 b2)
theorem p_M_news_25 {S : rz_S} {K : Int32 → rz_S → Prop} {a1 : Int32} {a2 : Int32} (w : ((a1 ≤ a2 → rz mM_news 39 [(0, .ref 116), (1, .int a1), (2, .int a2), (3, .int (a2 - 2))] [.int 0] S (rz_i K)) ∧ (¬ a1 ≤ a2 → rz mM_news 39 [(0, .ref 116), (1, .int a1), (2, .int a2), (3, .int (a2 - 2))] [.int 1] S (rz_i K)))) : rz mM_news 25 [(0, .ref 116), (1, .int a1), (2, .int a2)] [] S (rz_i K) := by
  refine rz_pure (pc' := 26) d_M_news_25 rfl ?_
  refine rz_iconst (v := 2) d_M_news_26 (by decide) ?_
  refine rz_isub d_M_news_27 ?_
  refine rz_pure (pc' := 29) (l' := [(3, .int (a2 - 2)), (0, .ref 116), (1, .int a1), (2, .int a2)]) d_M_news_28 rfl ?_
  refine rz_pure (pc' := 30) d_M_news_29 rfl ?_
  refine rz_pure (pc' := 31) d_M_news_30 rfl ?_
  refine rz_icmpge (tgt := 38) d_M_news_31 rfl (fun b1 => ?_) (fun b1 => ?_)
  · skip
    refine rz_iconst (v := 0) d_M_news_38 (by decide) ?_
    exact rz_pick (ks := [0, 1, 2, 3]) (l := [(0, .ref 116), (1, .int a1), (2, .int a2), (3, .int (a2 - 2))]) rfl rfl (by decide) rfl (w.1 b1)
  · skip
    refine rz_iconst (v := 1) d_M_news_34 (by decide) ?_
    refine rz_pure (pc' := 39) d_M_news_35 rfl ?_
    exact rz_pick (ks := [0, 1, 2, 3]) (l := [(0, .ref 116), (1, .int a1), (2, .int a2), (3, .int (a2 - 2))]) rfl rfl (by decide) rfl (w.2 b1)
theorem p_M_news_39 {S : rz_S} {K : Int32 → rz_S → Prop} {a1 : Int32} {a2 : Int32} {a3 : Int32} {s0 : Int32} (w : ((a3 = 0 → rz mM_news 63 [(0, .ref 116)] [] S (rz_i K)) ∧ (¬ a3 = 0 → ((10 < a3 → rz mM_news 63 [(0, .ref 116)] [] S (rz_i K)) ∧ (¬ 10 < a3 → ((s0 = 0 → rz mM_news 72 [(0, .ref 116), (2, .int a2), (3, .int a3), (4, .int s0)] [] S (rz_i K)) ∧ (¬ s0 = 0 → ((a1 - a2 = 3 → rz mM_news 72 [(0, .ref 116), (2, .int a2), (3, .int a3), (4, .int s0)] [] S (rz_i K)) ∧ (¬ a1 - a2 = 3 → rz mM_news 63 [(0, .ref 116)] [] S (rz_i K)))))))))) : rz mM_news 39 [(0, .ref 116), (1, .int a1), (2, .int a2), (3, .int a3)] [.int s0] S (rz_i K) := by
  refine rz_pure (pc' := 41) (l' := [(4, .int s0), (0, .ref 116), (1, .int a1), (2, .int a2), (3, .int a3)]) d_M_news_39 rfl ?_
  refine rz_pure (pc' := 42) d_M_news_41 rfl ?_
  refine rz_ifeq (tgt := 63) d_M_news_42 rfl (fun b1 => ?_) (fun b1 => ?_)
  · skip
    exact rz_pick (ks := [0]) (l := [(0, .ref 116)]) rfl rfl (by decide) rfl (w.1 b1)
  · skip
    refine rz_pure (pc' := 46) d_M_news_45 rfl ?_
    refine rz_bipush (v := 10) d_M_news_46 (by decide) ?_
    refine rz_icmpgt (tgt := 63) d_M_news_48 rfl (fun b2 => ?_) (fun b2 => ?_)
    · skip
      exact rz_pick (ks := [0]) (l := [(0, .ref 116)]) rfl rfl (by decide) rfl ((w.2 b1).1 b2)
    · skip
      refine rz_pure (pc' := 53) d_M_news_51 rfl ?_
      refine rz_ifeq (tgt := 72) d_M_news_53 rfl (fun b3 => ?_) (fun b3 => ?_)
      · skip
        exact rz_pick (ks := [0, 2, 3, 4]) (l := [(0, .ref 116), (2, .int a2), (3, .int a3), (4, .int s0)]) rfl rfl (by decide) rfl (((w.2 b1).2 b2).1 b3)
      · skip
        refine rz_pure (pc' := 57) d_M_news_56 rfl ?_
        refine rz_pure (pc' := 58) d_M_news_57 rfl ?_
        refine rz_isub d_M_news_58 ?_
        refine rz_iconst (v := 3) d_M_news_59 (by decide) ?_
        refine rz_icmpeq (tgt := 72) d_M_news_60 rfl (fun b4 => ?_) (fun b4 => ?_)
        · skip
          exact rz_pick (ks := [0, 2, 3, 4]) (l := [(0, .ref 116), (2, .int a2), (3, .int a3), (4, .int s0)]) rfl rfl (by decide) rfl ((((w.2 b1).2 b2).2 b3).1 b4)
        · skip
          exact rz_pick (ks := [0]) (l := [(0, .ref 116)]) rfl rfl (by decide) rfl ((((w.2 b1).2 b2).2 b3).2 b4)
theorem p_M_news_63 {S : rz_S} {K : Int32 → rz_S → Prop} (w : rz_ev mM_fault [.ref 116, .int 30, .int 0, .int 0] S (rz_i (fun xq1 Sq1 => K xq1 Sq1))) : rz mM_news 63 [(0, .ref 116)] [] S (rz_i K) := by
  refine rz_pure (pc' := 64) d_M_news_63 rfl ?_
  refine rz_bipush (v := 30) d_M_news_64 (by decide) ?_
  refine rz_iconst (v := 0) d_M_news_66 (by decide) ?_
  refine rz_iconst (v := 0) d_M_news_67 (by decide) ?_
  refine rz_callVi (t := [.int 0, .int 0, .int 30]) d_M_news_68 w_12_113 rfl rfl rfl w (fun xq1 Sq1 q1 => ?_)
  exact rz_ireti d_M_news_71 rfl rfl q1
theorem p_M_news_72 {S : rz_S} {K : Int32 → rz_S → Prop} {a2 : Int32} {a3 : Int32} {a4 : Int32} (w : rz_ev mM_isWild [.ref 116, .int 2, .int a3] S (rz_i (fun xq1 Sq1 => ((xq1 = 0 → ((a4 = 0 → rz mM_news 167 [(0, .ref 116), (3, .int a3)] [] Sq1 (rz_i K)) ∧ (¬ a4 = 0 → rz_ev mM_shutsAll [.ref 116] Sq1 (rz_v (fun Sq4 => rx_in (a2 + 1) 401 = true ∧ rx_in (a2 + 2) 401 = true ∧ rz mM_news 123 [(0, .ref 116), (3, .int a3), (5, .int (Sq4.1 151 ((a2 + 1).toNatClampNeg))), (6, .int (Sq4.1 151 ((a2 + 2).toNatClampNeg))), (7, .int 12)] [] Sq4 (rz_i K)))))) ∧ (¬ xq1 = 0 → rz_ev mM_fault [.ref 116, .int 33, .int 0, .int 0] Sq1 (rz_i (fun xq5 Sq5 => K xq5 Sq5))))))) : rz mM_news 72 [(0, .ref 116), (2, .int a2), (3, .int a3), (4, .int a4)] [] S (rz_i K) := by
  refine rz_pure (pc' := 73) d_M_news_72 rfl ?_
  refine rz_iconst (v := 2) d_M_news_73 (by decide) ?_
  refine rz_pure (pc' := 75) d_M_news_74 rfl ?_
  refine rz_callVi (t := [.int a3, .int 2]) d_M_news_75 w_12_332 rfl rfl rfl w (fun xq1 Sq1 q1 => ?_)
  refine rz_ifeq (tgt := 90) d_M_news_78 rfl (fun b2 => ?_) (fun b2 => ?_)
  · skip
    refine rz_pure (pc' := 92) d_M_news_90 rfl ?_
    refine rz_ifeq (tgt := 167) d_M_news_92 rfl (fun b3 => ?_) (fun b3 => ?_)
    · skip
      exact rz_pick (ks := [0, 3]) (l := [(0, .ref 116), (3, .int a3)]) rfl rfl (by decide) rfl ((q1.1 b2).1 b3)
    · skip
      refine rz_pure (pc' := 96) d_M_news_95 rfl ?_
      refine rz_callVv (t := []) d_M_news_96 w_12_546 rfl rfl rfl ((q1.1 b2).2 b3) (fun Sq4 q4 => ?_)
      refine rz_pure (pc' := 100) d_M_news_99 rfl ?_
      refine rz_getr d_M_news_100 f_12_260 rfl rfl ?_
      refine rz_pure (pc' := 104) d_M_news_103 rfl ?_
      refine rz_iconst (v := 1) d_M_news_104 (by decide) ?_
      refine rz_iadd d_M_news_105 ?_
      refine rz_ialdv (F := Sq4.1 151) (i := (a2 + 1).toNatClampNeg) d_M_news_106 rfl q4.1 rfl rfl ?_
      refine rz_pure (pc' := 109) (l' := [(5, .int (Sq4.1 151 ((a2 + 1).toNatClampNeg))), (0, .ref 116), (2, .int a2), (3, .int a3), (4, .int a4)]) d_M_news_107 rfl ?_
      refine rz_pure (pc' := 110) d_M_news_109 rfl ?_
      refine rz_getr d_M_news_110 f_12_260 rfl rfl ?_
      refine rz_pure (pc' := 114) d_M_news_113 rfl ?_
      refine rz_iconst (v := 2) d_M_news_114 (by decide) ?_
      refine rz_iadd d_M_news_115 ?_
      refine rz_ialdv (F := Sq4.1 151) (i := (a2 + 2).toNatClampNeg) d_M_news_116 rfl q4.2.1 rfl rfl ?_
      refine rz_pure (pc' := 119) (l' := [(6, .int (Sq4.1 151 ((a2 + 2).toNatClampNeg))), (5, .int (Sq4.1 151 ((a2 + 1).toNatClampNeg))), (0, .ref 116), (2, .int a2), (3, .int a3), (4, .int a4)]) d_M_news_117 rfl ?_
      refine rz_bipush (v := 12) d_M_news_119 (by decide) ?_
      refine rz_pure (pc' := 123) (l' := [(7, .int 12), (6, .int (Sq4.1 151 ((a2 + 2).toNatClampNeg))), (5, .int (Sq4.1 151 ((a2 + 1).toNatClampNeg))), (0, .ref 116), (2, .int a2), (3, .int a3), (4, .int a4)]) d_M_news_121 rfl ?_
      exact rz_pick (ks := [0, 3, 5, 6, 7]) (l := [(0, .ref 116), (3, .int a3), (5, .int (Sq4.1 151 ((a2 + 1).toNatClampNeg))), (6, .int (Sq4.1 151 ((a2 + 2).toNatClampNeg))), (7, .int 12)]) rfl rfl (by decide) rfl q4.2.2
  · skip
    refine rz_pure (pc' := 82) d_M_news_81 rfl ?_
    refine rz_bipush (v := 33) d_M_news_82 (by decide) ?_
    refine rz_iconst (v := 0) d_M_news_84 (by decide) ?_
    refine rz_iconst (v := 0) d_M_news_85 (by decide) ?_
    refine rz_callVi (t := [.int 0, .int 0, .int 33]) d_M_news_86 w_12_113 rfl rfl rfl (q1.2 b2) (fun xq5 Sq5 q5 => ?_)
    exact rz_ireti d_M_news_89 rfl rfl q5
theorem p_M_news_167 {S : rz_S} {K : Int32 → rz_S → Prop} {a3 : Int32} (w : rz_ev mM_maps [.ref 116, .int a3] S (rz_i (fun xq1 Sq1 => K xq1 Sq1))) : rz mM_news 167 [(0, .ref 116), (3, .int a3)] [] S (rz_i K) := by
  refine rz_pure (pc' := 168) d_M_news_167 rfl ?_
  refine rz_pure (pc' := 169) d_M_news_168 rfl ?_
  refine rz_callVi (t := [.int a3]) d_M_news_169 w_12_581 rfl rfl rfl w (fun xq1 Sq1 q1 => ?_)
  exact rz_ireti d_M_news_172 rfl rfl q1
theorem p_M_news_123 {S : rz_S} {K : Int32 → rz_S → Prop} {a3 : Int32} {a5 : Int32} {a6 : Int32} {a7 : Int32} (w : ((a7 < 1 → rz mM_news 167 [(0, .ref 116), (3, .int a3)] [] (rz_uI (rz_uI S 116 2 a5) 116 3 a6) (rz_i K)) ∧ (¬ a7 < 1 → rz_ev mM_format [.ref 116, .int a7, .int a5, .int a6] S (rz_i (fun xq2 Sq2 => ((xq2 = 0 → rz mM_news 123 [(0, .ref 116), (3, .int a3), (5, .int a5), (6, .int a6), (7, .int (a7 + (-1)))] [] Sq2 (rz_i K)) ∧ (¬ xq2 = 0 → K xq2 Sq2))))))) : rz mM_news 123 [(0, .ref 116), (3, .int a3), (5, .int a5), (6, .int a6), (7, .int a7)] [] S (rz_i K) := by
  refine rz_pure (pc' := 125) d_M_news_123 rfl ?_
  refine rz_iconst (v := 1) d_M_news_125 (by decide) ?_
  refine rz_icmplt (tgt := 155) d_M_news_126 rfl (fun b1 => ?_) (fun b1 => ?_)
  · skip
    refine rz_pure (pc' := 156) d_M_news_155 rfl ?_
    refine rz_pure (pc' := 158) d_M_news_156 rfl ?_
    refine rz_puti d_M_news_158 f_12_90 rfl rfl rfl ?_
    refine rz_pure (pc' := 162) d_M_news_161 rfl ?_
    refine rz_pure (pc' := 164) d_M_news_162 rfl ?_
    refine rz_puti d_M_news_164 f_12_93 rfl rfl rfl ?_
    exact rz_pick (ks := [0, 3]) (l := [(0, .ref 116), (3, .int a3)]) rfl rfl (by decide) rfl (w.1 b1)
  · skip
    refine rz_pure (pc' := 130) d_M_news_129 rfl ?_
    refine rz_pure (pc' := 132) d_M_news_130 rfl ?_
    refine rz_pure (pc' := 134) d_M_news_132 rfl ?_
    refine rz_pure (pc' := 136) d_M_news_134 rfl ?_
    refine rz_callVi (t := [.int a6, .int a5, .int a7]) d_M_news_136 w_12_578 rfl rfl rfl (w.2 b1) (fun xq2 Sq2 q2 => ?_)
    refine rz_pure (pc' := 141) (l' := [(8, .int xq2), (0, .ref 116), (3, .int a3), (5, .int a5), (6, .int a6), (7, .int a7)]) d_M_news_139 rfl ?_
    refine rz_pure (pc' := 143) d_M_news_141 rfl ?_
    refine rz_ifeq (tgt := 149) d_M_news_143 rfl (fun b3 => ?_) (fun b3 => ?_)
    · skip
      refine rz_pure (pc' := 152) (l' := [(7, .int (a7 + (-1))), (8, .int xq2), (0, .ref 116), (3, .int a3), (5, .int a5), (6, .int a6)]) d_M_news_149 rfl ?_
      refine rz_pure (pc' := 123) d_M_news_152 rfl ?_
      exact rz_pick (ks := [0, 3, 5, 6, 7]) (l := [(0, .ref 116), (3, .int a3), (5, .int a5), (6, .int a6), (7, .int (a7 + (-1)))]) rfl rfl (by decide) rfl (q2.1 b3)
    · skip
      refine rz_pure (pc' := 148) d_M_news_146 rfl ?_
      exact rz_ireti d_M_news_148 rfl rfl (q2.2 b3)
theorem d_M_maps_0 : decode (rm_code mM_maps) 0 = .ok (.aload_n 0, 1) := by decide +kernel
theorem d_M_maps_1 : decode (rm_code mM_maps) 1 = .ok (.getfield 90, 3) := by decide +kernel
theorem d_M_maps_4 : decode (rm_code mM_maps) 4 = .ok (.iconst (-1), 1) := by decide +kernel
theorem d_M_maps_5 : decode (rm_code mM_maps) 5 = .ok (.if_icmp .ne (14), 3) := by decide +kernel
theorem d_M_maps_8 : decode (rm_code mM_maps) 8 = .ok (.aload_n 0, 1) := by decide +kernel
theorem d_M_maps_9 : decode (rm_code mM_maps) 9 = .ok (.invokevirtual 107, 3) := by decide +kernel
theorem d_M_maps_12 : decode (rm_code mM_maps) 12 = .ok (.istore_n 2, 1) := by decide +kernel
theorem d_M_maps_13 : decode (rm_code mM_maps) 13 = .ok (.iload_n 2, 1) := by decide +kernel
theorem d_M_maps_14 : decode (rm_code mM_maps) 14 = .ok (.ifCond .eq (5), 3) := by decide +kernel
theorem d_M_maps_17 : decode (rm_code mM_maps) 17 = .ok (.iload_n 2, 1) := by decide +kernel
theorem d_M_maps_18 : decode (rm_code mM_maps) 18 = .ok (.ireturn, 1) := by decide +kernel
theorem d_M_maps_19 : decode (rm_code mM_maps) 19 = .ok (.iconst 0, 1) := by decide +kernel
theorem d_M_maps_20 : decode (rm_code mM_maps) 20 = .ok (.istore_n 2, 1) := by decide +kernel
theorem d_M_maps_21 : decode (rm_code mM_maps) 21 = .ok (.iload_n 2, 1) := by decide +kernel
theorem d_M_maps_22 : decode (rm_code mM_maps) 22 = .ok (.bipush (64), 2) := by decide +kernel
theorem d_M_maps_24 : decode (rm_code mM_maps) 24 = .ok (.if_icmp .ge (16), 3) := by decide +kernel
theorem d_M_maps_27 : decode (rm_code mM_maps) 27 = .ok (.aload_n 0, 1) := by decide +kernel
theorem d_M_maps_28 : decode (rm_code mM_maps) 28 = .ok (.getfield 145, 3) := by decide +kernel
theorem d_M_maps_31 : decode (rm_code mM_maps) 31 = .ok (.iload_n 2, 1) := by decide +kernel
theorem d_M_maps_32 : decode (rm_code mM_maps) 32 = .ok (.iconst 0, 1) := by decide +kernel
theorem d_M_maps_33 : decode (rm_code mM_maps) 33 = .ok (.iastore, 1) := by decide +kernel
theorem d_M_maps_34 : decode (rm_code mM_maps) 34 = .ok (.iinc 2 (1), 3) := by decide +kernel
theorem d_M_maps_37 : decode (rm_code mM_maps) 37 = .ok (.goto (-16), 3) := by decide +kernel
theorem d_M_maps_40 : decode (rm_code mM_maps) 40 = .ok (.aload_n 0, 1) := by decide +kernel
theorem d_M_maps_41 : decode (rm_code mM_maps) 41 = .ok (.getfield 145, 3) := by decide +kernel
theorem d_M_maps_44 : decode (rm_code mM_maps) 44 = .ok (.iconst 0, 1) := by decide +kernel
theorem d_M_maps_45 : decode (rm_code mM_maps) 45 = .ok (.bipush (7), 2) := by decide +kernel
theorem d_M_maps_47 : decode (rm_code mM_maps) 47 = .ok (.iastore, 1) := by decide +kernel
theorem d_M_maps_48 : decode (rm_code mM_maps) 48 = .ok (.aload_n 0, 1) := by decide +kernel
theorem d_M_maps_49 : decode (rm_code mM_maps) 49 = .ok (.getfield 145, 3) := by decide +kernel
theorem d_M_maps_52 : decode (rm_code mM_maps) 52 = .ok (.iconst 1, 1) := by decide +kernel
theorem d_M_maps_53 : decode (rm_code mM_maps) 53 = .ok (.iconst 1, 1) := by decide +kernel
theorem d_M_maps_54 : decode (rm_code mM_maps) 54 = .ok (.iastore, 1) := by decide +kernel
theorem d_M_maps_55 : decode (rm_code mM_maps) 55 = .ok (.aload_n 0, 1) := by decide +kernel
theorem d_M_maps_56 : decode (rm_code mM_maps) 56 = .ok (.getfield 145, 3) := by decide +kernel
theorem d_M_maps_59 : decode (rm_code mM_maps) 59 = .ok (.iconst 2, 1) := by decide +kernel
theorem d_M_maps_60 : decode (rm_code mM_maps) 60 = .ok (.bipush (68), 2) := by decide +kernel
theorem d_M_maps_62 : decode (rm_code mM_maps) 62 = .ok (.iastore, 1) := by decide +kernel
theorem d_M_maps_63 : decode (rm_code mM_maps) 63 = .ok (.aload_n 0, 1) := by decide +kernel
theorem d_M_maps_64 : decode (rm_code mM_maps) 64 = .ok (.invokevirtual 584, 3) := by decide +kernel
theorem d_M_maps_67 : decode (rm_code mM_maps) 67 = .ok (.iconst 0, 1) := by decide +kernel
theorem d_M_maps_68 : decode (rm_code mM_maps) 68 = .ok (.istore_n 2, 1) := by decide +kernel
theorem d_M_maps_69 : decode (rm_code mM_maps) 69 = .ok (.iload_n 2, 1) := by decide +kernel
theorem d_M_maps_70 : decode (rm_code mM_maps) 70 = .ok (.bipush (10), 2) := by decide +kernel
theorem d_M_maps_72 : decode (rm_code mM_maps) 72 = .ok (.if_icmp .ge (37), 3) := by decide +kernel
theorem d_M_maps_75 : decode (rm_code mM_maps) 75 = .ok (.aload_n 0, 1) := by decide +kernel
theorem d_M_maps_76 : decode (rm_code mM_maps) 76 = .ok (.getfield 145, 3) := by decide +kernel
theorem d_M_maps_79 : decode (rm_code mM_maps) 79 = .ok (.bipush (28), 2) := by decide +kernel
theorem d_M_maps_81 : decode (rm_code mM_maps) 81 = .ok (.iload_n 2, 1) := by decide +kernel
theorem d_M_maps_82 : decode (rm_code mM_maps) 82 = .ok (.iadd, 1) := by decide +kernel
theorem d_M_maps_83 : decode (rm_code mM_maps) 83 = .ok (.iload_n 2, 1) := by decide +kernel
theorem d_M_maps_84 : decode (rm_code mM_maps) 84 = .ok (.iload_n 1, 1) := by decide +kernel
theorem d_M_maps_85 : decode (rm_code mM_maps) 85 = .ok (.if_icmp .ge (14), 3) := by decide +kernel
theorem d_M_maps_88 : decode (rm_code mM_maps) 88 = .ok (.aload_n 0, 1) := by decide +kernel
theorem d_M_maps_89 : decode (rm_code mM_maps) 89 = .ok (.getfield 260, 3) := by decide +kernel
theorem d_M_maps_92 : decode (rm_code mM_maps) 92 = .ok (.iconst 2, 1) := by decide +kernel
theorem d_M_maps_93 : decode (rm_code mM_maps) 93 = .ok (.iload_n 2, 1) := by decide +kernel
theorem d_M_maps_94 : decode (rm_code mM_maps) 94 = .ok (.iadd, 1) := by decide +kernel
theorem d_M_maps_95 : decode (rm_code mM_maps) 95 = .ok (.iaload, 1) := by decide +kernel
theorem d_M_maps_96 : decode (rm_code mM_maps) 96 = .ok (.goto (6), 3) := by decide +kernel
theorem d_M_maps_99 : decode (rm_code mM_maps) 99 = .ok (.sipush (160), 3) := by decide +kernel
theorem d_M_maps_102 : decode (rm_code mM_maps) 102 = .ok (.iastore, 1) := by decide +kernel
theorem d_M_maps_103 : decode (rm_code mM_maps) 103 = .ok (.iinc 2 (1), 3) := by decide +kernel
theorem d_M_maps_106 : decode (rm_code mM_maps) 106 = .ok (.goto (-37), 3) := by decide +kernel
theorem d_M_maps_109 : decode (rm_code mM_maps) 109 = .ok (.aload_n 0, 1) := by decide +kernel
theorem d_M_maps_110 : decode (rm_code mM_maps) 110 = .ok (.getfield 145, 3) := by decide +kernel
theorem d_M_maps_113 : decode (rm_code mM_maps) 113 = .ok (.bipush (38), 2) := by decide +kernel
theorem d_M_maps_115 : decode (rm_code mM_maps) 115 = .ok (.aload_n 0, 1) := by decide +kernel
theorem d_M_maps_116 : decode (rm_code mM_maps) 116 = .ok (.getfield 90, 3) := by decide +kernel
theorem d_M_maps_119 : decode (rm_code mM_maps) 119 = .ok (.iastore, 1) := by decide +kernel
theorem d_M_maps_120 : decode (rm_code mM_maps) 120 = .ok (.aload_n 0, 1) := by decide +kernel
theorem d_M_maps_121 : decode (rm_code mM_maps) 121 = .ok (.getfield 145, 3) := by decide +kernel
theorem d_M_maps_124 : decode (rm_code mM_maps) 124 = .ok (.bipush (39), 2) := by decide +kernel
theorem d_M_maps_126 : decode (rm_code mM_maps) 126 = .ok (.aload_n 0, 1) := by decide +kernel
theorem d_M_maps_127 : decode (rm_code mM_maps) 127 = .ok (.getfield 93, 3) := by decide +kernel
theorem d_M_maps_130 : decode (rm_code mM_maps) 130 = .ok (.iastore, 1) := by decide +kernel
theorem d_M_maps_131 : decode (rm_code mM_maps) 131 = .ok (.aload_n 0, 1) := by decide +kernel
theorem d_M_maps_132 : decode (rm_code mM_maps) 132 = .ok (.bipush (7), 2) := by decide +kernel
theorem d_M_maps_134 : decode (rm_code mM_maps) 134 = .ok (.iconst 0, 1) := by decide +kernel
theorem d_M_maps_135 : decode (rm_code mM_maps) 135 = .ok (.invokevirtual 174, 3) := by decide +kernel
theorem d_M_maps_138 : decode (rm_code mM_maps) 138 = .ok (.aload_n 0, 1) := by decide +kernel
theorem d_M_maps_139 : decode (rm_code mM_maps) 139 = .ok (.bipush (7), 2) := by decide +kernel
theorem d_M_maps_141 : decode (rm_code mM_maps) 141 = .ok (.iconst 1, 1) := by decide +kernel
theorem d_M_maps_142 : decode (rm_code mM_maps) 142 = .ok (.invokevirtual 174, 3) := by decide +kernel
theorem d_M_maps_145 : decode (rm_code mM_maps) 145 = .ok (.aload_n 0, 1) := by decide +kernel
theorem d_M_maps_146 : decode (rm_code mM_maps) 146 = .ok (.invokevirtual 189, 3) := by decide +kernel
theorem d_M_maps_149 : decode (rm_code mM_maps) 149 = .ok (.istore_n 2, 1) := by decide +kernel
theorem d_M_maps_150 : decode (rm_code mM_maps) 150 = .ok (.iload_n 2, 1) := by decide +kernel
theorem d_M_maps_151 : decode (rm_code mM_maps) 151 = .ok (.ifCond .eq (5), 3) := by decide +kernel
theorem d_M_maps_154 : decode (rm_code mM_maps) 154 = .ok (.iload_n 2, 1) := by decide +kernel
theorem d_M_maps_155 : decode (rm_code mM_maps) 155 = .ok (.ireturn, 1) := by decide +kernel
theorem d_M_maps_156 : decode (rm_code mM_maps) 156 = .ok (.iconst 0, 1) := by decide +kernel
theorem d_M_maps_157 : decode (rm_code mM_maps) 157 = .ok (.istore_n 3, 1) := by decide +kernel
theorem d_M_maps_158 : decode (rm_code mM_maps) 158 = .ok (.iload_n 3, 1) := by decide +kernel
theorem d_M_maps_159 : decode (rm_code mM_maps) 159 = .ok (.bipush (64), 2) := by decide +kernel
theorem d_M_maps_161 : decode (rm_code mM_maps) 161 = .ok (.if_icmp .ge (27), 3) := by decide +kernel
theorem d_M_maps_164 : decode (rm_code mM_maps) 164 = .ok (.aload_n 0, 1) := by decide +kernel
theorem d_M_maps_165 : decode (rm_code mM_maps) 165 = .ok (.getfield 186, 3) := by decide +kernel
theorem d_M_maps_168 : decode (rm_code mM_maps) 168 = .ok (.iload_n 3, 1) := by decide +kernel
theorem d_M_maps_169 : decode (rm_code mM_maps) 169 = .ok (.iload_n 3, 1) := by decide +kernel
theorem d_M_maps_170 : decode (rm_code mM_maps) 170 = .ok (.iconst 1, 1) := by decide +kernel
theorem d_M_maps_171 : decode (rm_code mM_maps) 171 = .ok (.if_icmp .ne (9), 3) := by decide +kernel
theorem d_M_maps_174 : decode (rm_code mM_maps) 174 = .ok (.sipush (255), 3) := by decide +kernel
theorem d_M_maps_177 : decode (rm_code mM_maps) 177 = .ok (.goto (4), 3) := by decide +kernel
theorem d_M_maps_180 : decode (rm_code mM_maps) 180 = .ok (.iconst 0, 1) := by decide +kernel
theorem d_M_maps_181 : decode (rm_code mM_maps) 181 = .ok (.iastore, 1) := by decide +kernel
theorem d_M_maps_182 : decode (rm_code mM_maps) 182 = .ok (.iinc 3 (1), 3) := by decide +kernel
theorem d_M_maps_185 : decode (rm_code mM_maps) 185 = .ok (.goto (-27), 3) := by decide +kernel
theorem d_M_maps_188 : decode (rm_code mM_maps) 188 = .ok (.aload_n 0, 1) := by decide +kernel
theorem d_M_maps_189 : decode (rm_code mM_maps) 189 = .ok (.bipush (7), 2) := by decide +kernel
theorem d_M_maps_191 : decode (rm_code mM_maps) 191 = .ok (.iconst 1, 1) := by decide +kernel
theorem d_M_maps_192 : decode (rm_code mM_maps) 192 = .ok (.aload_n 0, 1) := by decide +kernel
theorem d_M_maps_193 : decode (rm_code mM_maps) 193 = .ok (.getfield 186, 3) := by decide +kernel
theorem d_M_maps_196 : decode (rm_code mM_maps) 196 = .ok (.iconst 0, 1) := by decide +kernel
theorem d_M_maps_197 : decode (rm_code mM_maps) 197 = .ok (.invokevirtual 152, 3) := by decide +kernel
theorem d_M_maps_200 : decode (rm_code mM_maps) 200 = .ok (.ireturn, 1) := by decide +kernel
theorem p_M_maps_0 {S : rz_S} {K : Int32 → rz_S → Prop} {a1 : Int32} (w : ((S.2 116 2 = (-1) → rz_ev mM_takeId [.ref 116] S (rz_i (fun xq2 Sq2 => ((xq2 = 0 → rz mM_maps 21 [(0, .ref 116), (1, .int a1), (2, .int 0)] [] Sq2 (rz_i K)) ∧ (¬ xq2 = 0 → K xq2 Sq2))))) ∧ (¬ S.2 116 2 = (-1) → rz mM_maps 21 [(0, .ref 116), (1, .int a1), (2, .int 0)] [] S (rz_i K)))) : rz mM_maps 0 [(0, .ref 116), (1, .int a1)] [] S (rz_i K) := by
  refine rz_pure (pc' := 1) d_M_maps_0 rfl ?_
  refine rz_getiv (v := S.2 116 2) d_M_maps_1 f_12_90 rfl rfl rfl ?_
  refine rz_iconst (v := -1) d_M_maps_4 (by decide) ?_
  refine rz_icmpne (tgt := 19) d_M_maps_5 rfl (fun b1 => ?_) (fun b1 => ?_)
  · skip
    refine rz_iconst (v := 0) d_M_maps_19 (by decide) ?_
    refine rz_pure (pc' := 21) (l' := [(2, .int 0), (0, .ref 116), (1, .int a1)]) d_M_maps_20 rfl ?_
    exact rz_pick (ks := [0, 1, 2]) (l := [(0, .ref 116), (1, .int a1), (2, .int 0)]) rfl rfl (by decide) rfl (w.2 b1)
  · skip
    refine rz_pure (pc' := 9) d_M_maps_8 rfl ?_
    refine rz_callVi (t := []) d_M_maps_9 w_12_107 rfl rfl rfl (w.1 b1) (fun xq2 Sq2 q2 => ?_)
    refine rz_pure (pc' := 13) (l' := [(2, .int xq2), (0, .ref 116), (1, .int a1)]) d_M_maps_12 rfl ?_
    refine rz_pure (pc' := 14) d_M_maps_13 rfl ?_
    refine rz_ifeq (tgt := 19) d_M_maps_14 rfl (fun b3 => ?_) (fun b3 => ?_)
    · skip
      refine rz_iconst (v := 0) d_M_maps_19 (by decide) ?_
      refine rz_pure (pc' := 21) (l' := [(2, .int 0), (0, .ref 116), (1, .int a1)]) d_M_maps_20 rfl ?_
      exact rz_pick (ks := [0, 1, 2]) (l := [(0, .ref 116), (1, .int a1), (2, .int 0)]) rfl rfl (by decide) rfl (q2.1 b3)
    · skip
      refine rz_pure (pc' := 18) d_M_maps_17 rfl ?_
      exact rz_ireti d_M_maps_18 rfl rfl (q2.2 b3)
theorem p_M_maps_21 {S : rz_S} {K : Int32 → rz_S → Prop} {a1 : Int32} {a2 : Int32} (w : ((64 ≤ a2 → rz_ev mM_freesAll [.ref 116] (rz_fA (rz_fA (rz_fA S 123 (upd (S.1 123) 0 7)) 123 (upd (upd (S.1 123) 0 7) 1 1)) 123 (upd (upd (upd (S.1 123) 0 7) 1 1) 2 68)) (rz_v (fun Sq2 => rz mM_maps 69 [(0, .ref 116), (1, .int a1), (2, .int 0)] [] Sq2 (rz_i K)))) ∧ (¬ 64 ≤ a2 → rx_in a2 64 = true ∧ rz mM_maps 21 [(0, .ref 116), (1, .int a1), (2, .int (a2 + 1))] [] (rz_fA S 123 (upd (S.1 123) a2.toNatClampNeg 0)) (rz_i K)))) : rz mM_maps 21 [(0, .ref 116), (1, .int a1), (2, .int a2)] [] S (rz_i K) := by
  refine rz_pure (pc' := 22) d_M_maps_21 rfl ?_
  refine rz_bipush (v := 64) d_M_maps_22 (by decide) ?_
  refine rz_icmpge (tgt := 40) d_M_maps_24 rfl (fun b1 => ?_) (fun b1 => ?_)
  · skip
    refine rz_pure (pc' := 41) d_M_maps_40 rfl ?_
    refine rz_getr d_M_maps_41 f_12_145 rfl rfl ?_
    refine rz_iconst (v := 0) d_M_maps_44 (by decide) ?_
    refine rz_bipush (v := 7) d_M_maps_45 (by decide) ?_
    refine rz_iastv (F := S.1 123) (i := 0) d_M_maps_47 rfl (by decide) rfl (by decide) ?_
    refine rz_pure (pc' := 49) d_M_maps_48 rfl ?_
    refine rz_getr d_M_maps_49 f_12_145 rfl rfl ?_
    refine rz_iconst (v := 1) d_M_maps_52 (by decide) ?_
    refine rz_iconst (v := 1) d_M_maps_53 (by decide) ?_
    refine rz_iastv (F := upd (S.1 123) 0 7) (i := 1) d_M_maps_54 rfl (by decide) rz_fA_s (by decide) ?_
    refine rz_pure (pc' := 56) d_M_maps_55 rfl ?_
    refine rz_getr d_M_maps_56 f_12_145 rfl rfl ?_
    refine rz_iconst (v := 2) d_M_maps_59 (by decide) ?_
    refine rz_bipush (v := 68) d_M_maps_60 (by decide) ?_
    refine rz_iastv (F := upd (upd (S.1 123) 0 7) 1 1) (i := 2) d_M_maps_62 rfl (by decide) rz_fA_s (by decide) ?_
    refine rz_pure (pc' := 64) d_M_maps_63 rfl ?_
    refine rz_callVv (t := []) d_M_maps_64 w_12_584 rfl rfl rfl (w.1 b1) (fun Sq2 q2 => ?_)
    refine rz_iconst (v := 0) d_M_maps_67 (by decide) ?_
    refine rz_pure (pc' := 69) (l' := [(2, .int 0), (0, .ref 116), (1, .int a1)]) d_M_maps_68 rfl ?_
    exact rz_pick (ks := [0, 1, 2]) (l := [(0, .ref 116), (1, .int a1), (2, .int 0)]) rfl rfl (by decide) rfl q2
  · skip
    refine rz_pure (pc' := 28) d_M_maps_27 rfl ?_
    refine rz_getr d_M_maps_28 f_12_145 rfl rfl ?_
    refine rz_pure (pc' := 32) d_M_maps_31 rfl ?_
    refine rz_iconst (v := 0) d_M_maps_32 (by decide) ?_
    refine rz_iastv (F := S.1 123) (i := a2.toNatClampNeg) d_M_maps_33 rfl (w.2 b1).1 rfl rfl ?_
    refine rz_pure (pc' := 37) (l' := [(2, .int (a2 + 1)), (0, .ref 116), (1, .int a1)]) d_M_maps_34 rfl ?_
    refine rz_pure (pc' := 21) d_M_maps_37 rfl ?_
    exact rz_pick (ks := [0, 1, 2]) (l := [(0, .ref 116), (1, .int a1), (2, .int (a2 + 1))]) rfl rfl (by decide) rfl (w.2 b1).2
theorem p_M_maps_69 {S : rz_S} {K : Int32 → rz_S → Prop} {a1 : Int32} {a2 : Int32} (w : ((10 ≤ a2 → rz_ev mM_takes [.ref 116, .int 7, .int 0] (rz_fA (rz_fA S 123 (upd (S.1 123) 38 (S.2 116 2))) 123 (upd (upd (S.1 123) 38 (S.2 116 2)) 39 (S.2 116 3))) (rz_v (fun Sq2 => rz_ev mM_takes [.ref 116, .int 7, .int 1] Sq2 (rz_v (fun Sq3 => rz_ev mM_stores [.ref 116] Sq3 (rz_i (fun xq4 Sq4 => ((xq4 = 0 → rz mM_maps 158 [(0, .ref 116), (3, .int 0)] [] Sq4 (rz_i K)) ∧ (¬ xq4 = 0 → K xq4 Sq4))))))))) ∧ (¬ 10 ≤ a2 → ((a1 ≤ a2 → rx_in (28 + a2) 64 = true ∧ rz mM_maps 69 [(0, .ref 116), (1, .int a1), (2, .int (a2 + 1))] [] (rz_fA S 123 (upd (S.1 123) ((28 + a2).toNatClampNeg) 160)) (rz_i K)) ∧ (¬ a1 ≤ a2 → rx_in (2 + a2) 401 = true ∧ rx_in (28 + a2) 64 = true ∧ rz mM_maps 69 [(0, .ref 116), (1, .int a1), (2, .int (a2 + 1))] [] (rz_fA S 123 (upd (S.1 123) ((28 + a2).toNatClampNeg) (S.1 151 ((2 + a2).toNatClampNeg)))) (rz_i K)))))) : rz mM_maps 69 [(0, .ref 116), (1, .int a1), (2, .int a2)] [] S (rz_i K) := by
  refine rz_pure (pc' := 70) d_M_maps_69 rfl ?_
  refine rz_bipush (v := 10) d_M_maps_70 (by decide) ?_
  refine rz_icmpge (tgt := 109) d_M_maps_72 rfl (fun b1 => ?_) (fun b1 => ?_)
  · skip
    refine rz_pure (pc' := 110) d_M_maps_109 rfl ?_
    refine rz_getr d_M_maps_110 f_12_145 rfl rfl ?_
    refine rz_bipush (v := 38) d_M_maps_113 (by decide) ?_
    refine rz_pure (pc' := 116) d_M_maps_115 rfl ?_
    refine rz_getiv (v := S.2 116 2) d_M_maps_116 f_12_90 rfl rfl rfl ?_
    refine rz_iastv (F := S.1 123) (i := 38) d_M_maps_119 rfl (by decide) rfl (by decide) ?_
    refine rz_pure (pc' := 121) d_M_maps_120 rfl ?_
    refine rz_getr d_M_maps_121 f_12_145 rfl rfl ?_
    refine rz_bipush (v := 39) d_M_maps_124 (by decide) ?_
    refine rz_pure (pc' := 127) d_M_maps_126 rfl ?_
    refine rz_getiv (v := S.2 116 3) d_M_maps_127 f_12_93 rfl rfl rfl ?_
    refine rz_iastv (F := upd (S.1 123) 38 (S.2 116 2)) (i := 39) d_M_maps_130 rfl (by decide) rz_fA_s (by decide) ?_
    refine rz_pure (pc' := 132) d_M_maps_131 rfl ?_
    refine rz_bipush (v := 7) d_M_maps_132 (by decide) ?_
    refine rz_iconst (v := 0) d_M_maps_134 (by decide) ?_
    refine rz_callVv (t := [.int 0, .int 7]) d_M_maps_135 w_12_174 rfl rfl rfl (w.1 b1) (fun Sq2 q2 => ?_)
    refine rz_pure (pc' := 139) d_M_maps_138 rfl ?_
    refine rz_bipush (v := 7) d_M_maps_139 (by decide) ?_
    refine rz_iconst (v := 1) d_M_maps_141 (by decide) ?_
    refine rz_callVv (t := [.int 1, .int 7]) d_M_maps_142 w_12_174 rfl rfl rfl q2 (fun Sq3 q3 => ?_)
    refine rz_pure (pc' := 146) d_M_maps_145 rfl ?_
    refine rz_callVi (t := []) d_M_maps_146 w_12_189 rfl rfl rfl q3 (fun xq4 Sq4 q4 => ?_)
    refine rz_pure (pc' := 150) (l' := [(2, .int xq4), (0, .ref 116), (1, .int a1)]) d_M_maps_149 rfl ?_
    refine rz_pure (pc' := 151) d_M_maps_150 rfl ?_
    refine rz_ifeq (tgt := 156) d_M_maps_151 rfl (fun b5 => ?_) (fun b5 => ?_)
    · skip
      refine rz_iconst (v := 0) d_M_maps_156 (by decide) ?_
      refine rz_pure (pc' := 158) (l' := [(3, .int 0), (2, .int xq4), (0, .ref 116), (1, .int a1)]) d_M_maps_157 rfl ?_
      exact rz_pick (ks := [0, 3]) (l := [(0, .ref 116), (3, .int 0)]) rfl rfl (by decide) rfl (q4.1 b5)
    · skip
      refine rz_pure (pc' := 155) d_M_maps_154 rfl ?_
      exact rz_ireti d_M_maps_155 rfl rfl (q4.2 b5)
  · skip
    refine rz_pure (pc' := 76) d_M_maps_75 rfl ?_
    refine rz_getr d_M_maps_76 f_12_145 rfl rfl ?_
    refine rz_bipush (v := 28) d_M_maps_79 (by decide) ?_
    refine rz_pure (pc' := 82) d_M_maps_81 rfl ?_
    refine rz_iadd d_M_maps_82 ?_
    refine rz_pure (pc' := 84) d_M_maps_83 rfl ?_
    refine rz_pure (pc' := 85) d_M_maps_84 rfl ?_
    refine rz_icmpge (tgt := 99) d_M_maps_85 rfl (fun b6 => ?_) (fun b6 => ?_)
    · skip
      refine rz_sipush (v := 160) d_M_maps_99 (by decide) ?_
      refine rz_iastv (F := S.1 123) (i := (28 + a2).toNatClampNeg) d_M_maps_102 rfl ((w.2 b1).1 b6).1 rfl rfl ?_
      refine rz_pure (pc' := 106) (l' := [(2, .int (a2 + 1)), (0, .ref 116), (1, .int a1)]) d_M_maps_103 rfl ?_
      refine rz_pure (pc' := 69) d_M_maps_106 rfl ?_
      exact rz_pick (ks := [0, 1, 2]) (l := [(0, .ref 116), (1, .int a1), (2, .int (a2 + 1))]) rfl rfl (by decide) rfl ((w.2 b1).1 b6).2
    · skip
      refine rz_pure (pc' := 89) d_M_maps_88 rfl ?_
      refine rz_getr d_M_maps_89 f_12_260 rfl rfl ?_
      refine rz_iconst (v := 2) d_M_maps_92 (by decide) ?_
      refine rz_pure (pc' := 94) d_M_maps_93 rfl ?_
      refine rz_iadd d_M_maps_94 ?_
      refine rz_ialdv (F := S.1 151) (i := (2 + a2).toNatClampNeg) d_M_maps_95 rfl ((w.2 b1).2 b6).1 rfl rfl ?_
      refine rz_pure (pc' := 102) d_M_maps_96 rfl ?_
      refine rz_iastv (F := S.1 123) (i := (28 + a2).toNatClampNeg) d_M_maps_102 rfl ((w.2 b1).2 b6).2.1 rfl rfl ?_
      refine rz_pure (pc' := 106) (l' := [(2, .int (a2 + 1)), (0, .ref 116), (1, .int a1)]) d_M_maps_103 rfl ?_
      refine rz_pure (pc' := 69) d_M_maps_106 rfl ?_
      exact rz_pick (ks := [0, 1, 2]) (l := [(0, .ref 116), (1, .int a1), (2, .int (a2 + 1))]) rfl rfl (by decide) rfl ((w.2 b1).2 b6).2.2
theorem p_M_maps_158 {S : rz_S} {K : Int32 → rz_S → Prop} {a3 : Int32} (w : ((64 ≤ a3 → rz_ev mM_writeBlock [.ref 116, .int 7, .int 1, .ref 125, .int 0] S (rz_i (fun xq2 Sq2 => K xq2 Sq2))) ∧ (¬ 64 ≤ a3 → ((a3 = 1 → rx_in a3 64 = true ∧ rz mM_maps 158 [(0, .ref 116), (3, .int (a3 + 1))] [] (rz_fA S 125 (upd (S.1 125) a3.toNatClampNeg 255)) (rz_i K)) ∧ (¬ a3 = 1 → rx_in a3 64 = true ∧ rz mM_maps 158 [(0, .ref 116), (3, .int (a3 + 1))] [] (rz_fA S 125 (upd (S.1 125) a3.toNatClampNeg 0)) (rz_i K)))))) : rz mM_maps 158 [(0, .ref 116), (3, .int a3)] [] S (rz_i K) := by
  refine rz_pure (pc' := 159) d_M_maps_158 rfl ?_
  refine rz_bipush (v := 64) d_M_maps_159 (by decide) ?_
  refine rz_icmpge (tgt := 188) d_M_maps_161 rfl (fun b1 => ?_) (fun b1 => ?_)
  · skip
    refine rz_pure (pc' := 189) d_M_maps_188 rfl ?_
    refine rz_bipush (v := 7) d_M_maps_189 (by decide) ?_
    refine rz_iconst (v := 1) d_M_maps_191 (by decide) ?_
    refine rz_pure (pc' := 193) d_M_maps_192 rfl ?_
    refine rz_getr d_M_maps_193 f_12_186 rfl rfl ?_
    refine rz_iconst (v := 0) d_M_maps_196 (by decide) ?_
    refine rz_callVi (t := [.int 0, .ref 125, .int 1, .int 7]) d_M_maps_197 w_12_152 rfl rfl rfl (w.1 b1) (fun xq2 Sq2 q2 => ?_)
    exact rz_ireti d_M_maps_200 rfl rfl q2
  · skip
    refine rz_pure (pc' := 165) d_M_maps_164 rfl ?_
    refine rz_getr d_M_maps_165 f_12_186 rfl rfl ?_
    refine rz_pure (pc' := 169) d_M_maps_168 rfl ?_
    refine rz_pure (pc' := 170) d_M_maps_169 rfl ?_
    refine rz_iconst (v := 1) d_M_maps_170 (by decide) ?_
    refine rz_icmpne (tgt := 180) d_M_maps_171 rfl (fun b3 => ?_) (fun b3 => ?_)
    · skip
      refine rz_iconst (v := 0) d_M_maps_180 (by decide) ?_
      refine rz_iastv (F := S.1 125) (i := a3.toNatClampNeg) d_M_maps_181 rfl ((w.2 b1).2 b3).1 rfl rfl ?_
      refine rz_pure (pc' := 185) (l' := [(3, .int (a3 + 1)), (0, .ref 116)]) d_M_maps_182 rfl ?_
      refine rz_pure (pc' := 158) d_M_maps_185 rfl ?_
      exact rz_pick (ks := [0, 3]) (l := [(0, .ref 116), (3, .int (a3 + 1))]) rfl rfl (by decide) rfl ((w.2 b1).2 b3).2
    · skip
      refine rz_sipush (v := 255) d_M_maps_174 (by decide) ?_
      refine rz_pure (pc' := 181) d_M_maps_177 rfl ?_
      refine rz_iastv (F := S.1 125) (i := a3.toNatClampNeg) d_M_maps_181 rfl ((w.2 b1).1 b3).1 rfl rfl ?_
      refine rz_pure (pc' := 185) (l' := [(3, .int (a3 + 1)), (0, .ref 116)]) d_M_maps_182 rfl ?_
      refine rz_pure (pc' := 158) d_M_maps_185 rfl ?_
      exact rz_pick (ks := [0, 3]) (l := [(0, .ref 116), (3, .int (a3 + 1))]) rfl rfl (by decide) rfl ((w.2 b1).1 b3).2
theorem d_M_freesAll_0 : decode (rm_code mM_freesAll) 0 = .ok (.iconst 1, 1) := by decide +kernel
theorem d_M_freesAll_1 : decode (rm_code mM_freesAll) 1 = .ok (.istore_n 1, 1) := by decide +kernel
theorem d_M_freesAll_2 : decode (rm_code mM_freesAll) 2 = .ok (.iload_n 1, 1) := by decide +kernel
theorem d_M_freesAll_3 : decode (rm_code mM_freesAll) 3 = .ok (.bipush (12), 2) := by decide +kernel
theorem d_M_freesAll_5 : decode (rm_code mM_freesAll) 5 = .ok (.if_icmp .gt (41), 3) := by decide +kernel
theorem d_M_freesAll_8 : decode (rm_code mM_freesAll) 8 = .ok (.aload_n 0, 1) := by decide +kernel
theorem d_M_freesAll_9 : decode (rm_code mM_freesAll) 9 = .ok (.getfield 145, 3) := by decide +kernel
theorem d_M_freesAll_12 : decode (rm_code mM_freesAll) 12 = .ok (.iconst 2, 1) := by decide +kernel
theorem d_M_freesAll_13 : decode (rm_code mM_freesAll) 13 = .ok (.iconst 2, 1) := by decide +kernel
theorem d_M_freesAll_14 : decode (rm_code mM_freesAll) 14 = .ok (.iload_n 1, 1) := by decide +kernel
theorem d_M_freesAll_15 : decode (rm_code mM_freesAll) 15 = .ok (.imul, 1) := by decide +kernel
theorem d_M_freesAll_16 : decode (rm_code mM_freesAll) 16 = .ok (.iadd, 1) := by decide +kernel
theorem d_M_freesAll_17 : decode (rm_code mM_freesAll) 17 = .ok (.iload_n 1, 1) := by decide +kernel
theorem d_M_freesAll_18 : decode (rm_code mM_freesAll) 18 = .ok (.invokestatic 1, 3) := by decide +kernel
theorem d_M_freesAll_21 : decode (rm_code mM_freesAll) 21 = .ok (.iastore, 1) := by decide +kernel
theorem d_M_freesAll_22 : decode (rm_code mM_freesAll) 22 = .ok (.aload_n 0, 1) := by decide +kernel
theorem d_M_freesAll_23 : decode (rm_code mM_freesAll) 23 = .ok (.getfield 145, 3) := by decide +kernel
theorem d_M_freesAll_26 : decode (rm_code mM_freesAll) 26 = .ok (.iconst 3, 1) := by decide +kernel
theorem d_M_freesAll_27 : decode (rm_code mM_freesAll) 27 = .ok (.iconst 2, 1) := by decide +kernel
theorem d_M_freesAll_28 : decode (rm_code mM_freesAll) 28 = .ok (.iload_n 1, 1) := by decide +kernel
theorem d_M_freesAll_29 : decode (rm_code mM_freesAll) 29 = .ok (.imul, 1) := by decide +kernel
theorem d_M_freesAll_30 : decode (rm_code mM_freesAll) 30 = .ok (.iadd, 1) := by decide +kernel
theorem d_M_freesAll_31 : decode (rm_code mM_freesAll) 31 = .ok (.iconst 1, 1) := by decide +kernel
theorem d_M_freesAll_32 : decode (rm_code mM_freesAll) 32 = .ok (.iload_n 1, 1) := by decide +kernel
theorem d_M_freesAll_33 : decode (rm_code mM_freesAll) 33 = .ok (.invokestatic 1, 3) := by decide +kernel
theorem d_M_freesAll_36 : decode (rm_code mM_freesAll) 36 = .ok (.ishl, 1) := by decide +kernel
theorem d_M_freesAll_37 : decode (rm_code mM_freesAll) 37 = .ok (.iconst 1, 1) := by decide +kernel
theorem d_M_freesAll_38 : decode (rm_code mM_freesAll) 38 = .ok (.isub, 1) := by decide +kernel
theorem d_M_freesAll_39 : decode (rm_code mM_freesAll) 39 = .ok (.iastore, 1) := by decide +kernel
theorem d_M_freesAll_40 : decode (rm_code mM_freesAll) 40 = .ok (.iinc 1 (1), 3) := by decide +kernel
theorem d_M_freesAll_43 : decode (rm_code mM_freesAll) 43 = .ok (.goto (-41), 3) := by decide +kernel
theorem d_M_freesAll_46 : decode (rm_code mM_freesAll) 46 = .ok (.return_, 1) := by decide +kernel
theorem p_M_freesAll_0 {S : rz_S} {K : rz_S → Prop} (w : rz mM_freesAll 2 [(0, .ref 116), (1, .int 1)] [] S (rz_v K)) : rz mM_freesAll 0 [(0, .ref 116)] [] S (rz_v K) := by
  refine rz_iconst (v := 1) d_M_freesAll_0 (by decide) ?_
  refine rz_pure (pc' := 2) (l' := [(1, .int 1), (0, .ref 116)]) d_M_freesAll_1 rfl ?_
  exact rz_pick (ks := [0, 1]) (l := [(0, .ref 116), (1, .int 1)]) rfl rfl (by decide) rfl w
theorem p_M_freesAll_2 {S : rz_S} {K : rz_S → Prop} {a1 : Int32} (w : ((12 < a1 → K S) ∧ (¬ 12 < a1 → rz_ev mM_sectorsOf [.int a1] S (rz_i (fun xq2 Sq2 => rx_in (2 + (2 * a1)) 64 = true ∧ rz_ev mM_sectorsOf [.int a1] (rz_fA Sq2 123 (upd (Sq2.1 123) ((2 + (2 * a1)).toNatClampNeg) xq2)) (rz_i (fun xq3 Sq3 => rx_in (3 + (2 * a1)) 64 = true ∧ rz mM_freesAll 2 [(0, .ref 116), (1, .int (a1 + 1))] [] (rz_fA Sq3 123 (upd (Sq3.1 123) ((3 + (2 * a1)).toNatClampNeg) ((1 <<< (xq3 &&& 31)) - 1))) (rz_v K)))))))) : rz mM_freesAll 2 [(0, .ref 116), (1, .int a1)] [] S (rz_v K) := by
  refine rz_pure (pc' := 3) d_M_freesAll_2 rfl ?_
  refine rz_bipush (v := 12) d_M_freesAll_3 (by decide) ?_
  refine rz_icmpgt (tgt := 46) d_M_freesAll_5 rfl (fun b1 => ?_) (fun b1 => ?_)
  · skip
    exact rz_vretv d_M_freesAll_46 rfl (w.1 b1)
  · skip
    refine rz_pure (pc' := 9) d_M_freesAll_8 rfl ?_
    refine rz_getr d_M_freesAll_9 f_12_145 rfl rfl ?_
    refine rz_iconst (v := 2) d_M_freesAll_12 (by decide) ?_
    refine rz_iconst (v := 2) d_M_freesAll_13 (by decide) ?_
    refine rz_pure (pc' := 15) d_M_freesAll_14 rfl ?_
    refine rz_imul d_M_freesAll_15 ?_
    refine rz_iadd d_M_freesAll_16 ?_
    refine rz_pure (pc' := 18) d_M_freesAll_17 rfl ?_
    refine rz_callSi (t := [.int a1]) d_M_freesAll_18 rfl w_12_1 rfl rfl (w.2 b1) (fun xq2 Sq2 q2 => ?_)
    refine rz_iastv (F := Sq2.1 123) (i := (2 + (2 * a1)).toNatClampNeg) d_M_freesAll_21 rfl q2.1 rfl rfl ?_
    refine rz_pure (pc' := 23) d_M_freesAll_22 rfl ?_
    refine rz_getr d_M_freesAll_23 f_12_145 rfl rfl ?_
    refine rz_iconst (v := 3) d_M_freesAll_26 (by decide) ?_
    refine rz_iconst (v := 2) d_M_freesAll_27 (by decide) ?_
    refine rz_pure (pc' := 29) d_M_freesAll_28 rfl ?_
    refine rz_imul d_M_freesAll_29 ?_
    refine rz_iadd d_M_freesAll_30 ?_
    refine rz_iconst (v := 1) d_M_freesAll_31 (by decide) ?_
    refine rz_pure (pc' := 33) d_M_freesAll_32 rfl ?_
    refine rz_callSi (t := [.int a1]) d_M_freesAll_33 rfl w_12_1 rfl rfl q2.2 (fun xq3 Sq3 q3 => ?_)
    refine rz_ishl d_M_freesAll_36 ?_
    refine rz_iconst (v := 1) d_M_freesAll_37 (by decide) ?_
    refine rz_isub d_M_freesAll_38 ?_
    refine rz_iastv (F := Sq3.1 123) (i := (3 + (2 * a1)).toNatClampNeg) d_M_freesAll_39 rfl q3.1 rfl rfl ?_
    refine rz_pure (pc' := 43) (l' := [(1, .int (a1 + 1)), (0, .ref 116)]) d_M_freesAll_40 rfl ?_
    refine rz_pure (pc' := 2) d_M_freesAll_43 rfl ?_
    exact rz_pick (ks := [0, 1]) (l := [(0, .ref 116), (1, .int (a1 + 1))]) rfl rfl (by decide) rfl q3.2
theorem d_M_scratch_0 : decode (rm_code mM_scratch) 0 = .ok (.iload_n 1, 1) := by decide +kernel
theorem d_M_scratch_1 : decode (rm_code mM_scratch) 1 = .ok (.iconst 2, 1) := by decide +kernel
theorem d_M_scratch_2 : decode (rm_code mM_scratch) 2 = .ok (.isub, 1) := by decide +kernel
theorem d_M_scratch_3 : decode (rm_code mM_scratch) 3 = .ok (.istore_n 2, 1) := by decide +kernel
theorem d_M_scratch_4 : decode (rm_code mM_scratch) 4 = .ok (.iload_n 2, 1) := by decide +kernel
theorem d_M_scratch_5 : decode (rm_code mM_scratch) 5 = .ok (.ifCond .eq (9), 3) := by decide +kernel
theorem d_M_scratch_8 : decode (rm_code mM_scratch) 8 = .ok (.iload_n 2, 1) := by decide +kernel
theorem d_M_scratch_9 : decode (rm_code mM_scratch) 9 = .ok (.bipush (10), 2) := by decide +kernel
theorem d_M_scratch_11 : decode (rm_code mM_scratch) 11 = .ok (.if_icmp .le (12), 3) := by decide +kernel
theorem d_M_scratch_14 : decode (rm_code mM_scratch) 14 = .ok (.aload_n 0, 1) := by decide +kernel
theorem d_M_scratch_15 : decode (rm_code mM_scratch) 15 = .ok (.bipush (30), 2) := by decide +kernel
theorem d_M_scratch_17 : decode (rm_code mM_scratch) 17 = .ok (.iconst 0, 1) := by decide +kernel
theorem d_M_scratch_18 : decode (rm_code mM_scratch) 18 = .ok (.iconst 0, 1) := by decide +kernel
theorem d_M_scratch_19 : decode (rm_code mM_scratch) 19 = .ok (.invokevirtual 113, 3) := by decide +kernel
theorem d_M_scratch_22 : decode (rm_code mM_scratch) 22 = .ok (.ireturn, 1) := by decide +kernel
theorem d_M_scratch_23 : decode (rm_code mM_scratch) 23 = .ok (.iconst 0, 1) := by decide +kernel
theorem d_M_scratch_24 : decode (rm_code mM_scratch) 24 = .ok (.istore_n 3, 1) := by decide +kernel
theorem d_M_scratch_25 : decode (rm_code mM_scratch) 25 = .ok (.iload_n 3, 1) := by decide +kernel
theorem d_M_scratch_26 : decode (rm_code mM_scratch) 26 = .ok (.iload_n 2, 1) := by decide +kernel
theorem d_M_scratch_27 : decode (rm_code mM_scratch) 27 = .ok (.if_icmp .ge (23), 3) := by decide +kernel
theorem d_M_scratch_30 : decode (rm_code mM_scratch) 30 = .ok (.aload_n 0, 1) := by decide +kernel
theorem d_M_scratch_31 : decode (rm_code mM_scratch) 31 = .ok (.getfield 587, 3) := by decide +kernel
theorem d_M_scratch_34 : decode (rm_code mM_scratch) 34 = .ok (.iload_n 3, 1) := by decide +kernel
theorem d_M_scratch_35 : decode (rm_code mM_scratch) 35 = .ok (.aload_n 0, 1) := by decide +kernel
theorem d_M_scratch_36 : decode (rm_code mM_scratch) 36 = .ok (.getfield 260, 3) := by decide +kernel
theorem d_M_scratch_39 : decode (rm_code mM_scratch) 39 = .ok (.iconst 2, 1) := by decide +kernel
theorem d_M_scratch_40 : decode (rm_code mM_scratch) 40 = .ok (.iload_n 3, 1) := by decide +kernel
theorem d_M_scratch_41 : decode (rm_code mM_scratch) 41 = .ok (.iadd, 1) := by decide +kernel
theorem d_M_scratch_42 : decode (rm_code mM_scratch) 42 = .ok (.iaload, 1) := by decide +kernel
theorem d_M_scratch_43 : decode (rm_code mM_scratch) 43 = .ok (.iastore, 1) := by decide +kernel
theorem d_M_scratch_44 : decode (rm_code mM_scratch) 44 = .ok (.iinc 3 (1), 3) := by decide +kernel
theorem d_M_scratch_47 : decode (rm_code mM_scratch) 47 = .ok (.goto (-22), 3) := by decide +kernel
theorem d_M_scratch_50 : decode (rm_code mM_scratch) 50 = .ok (.iconst 0, 1) := by decide +kernel
theorem d_M_scratch_51 : decode (rm_code mM_scratch) 51 = .ok (.istore_n 3, 1) := by decide +kernel
theorem d_M_scratch_52 : decode (rm_code mM_scratch) 52 = .ok (.aload_n 0, 1) := by decide +kernel
theorem d_M_scratch_53 : decode (rm_code mM_scratch) 53 = .ok (.iconst 0, 1) := by decide +kernel
theorem d_M_scratch_54 : decode (rm_code mM_scratch) 54 = .ok (.aload_n 0, 1) := by decide +kernel
theorem d_M_scratch_55 : decode (rm_code mM_scratch) 55 = .ok (.getfield 587, 3) := by decide +kernel
theorem d_M_scratch_58 : decode (rm_code mM_scratch) 58 = .ok (.iconst 0, 1) := by decide +kernel
theorem d_M_scratch_59 : decode (rm_code mM_scratch) 59 = .ok (.iload_n 2, 1) := by decide +kernel
theorem d_M_scratch_60 : decode (rm_code mM_scratch) 60 = .ok (.invokevirtual 325, 3) := by decide +kernel
theorem d_M_scratch_63 : decode (rm_code mM_scratch) 63 = .ok (.istore 4, 2) := by decide +kernel
theorem d_M_scratch_65 : decode (rm_code mM_scratch) 65 = .ok (.iload 4, 2) := by decide +kernel
theorem d_M_scratch_67 : decode (rm_code mM_scratch) 67 = .ok (.iconst (-1), 1) := by decide +kernel
theorem d_M_scratch_68 : decode (rm_code mM_scratch) 68 = .ok (.if_icmp .ne (11), 3) := by decide +kernel
theorem d_M_scratch_71 : decode (rm_code mM_scratch) 71 = .ok (.aload_n 0, 1) := by decide +kernel
theorem d_M_scratch_72 : decode (rm_code mM_scratch) 72 = .ok (.iconst 1, 1) := by decide +kernel
theorem d_M_scratch_73 : decode (rm_code mM_scratch) 73 = .ok (.iload_n 3, 1) := by decide +kernel
theorem d_M_scratch_74 : decode (rm_code mM_scratch) 74 = .ok (.iconst 0, 1) := by decide +kernel
theorem d_M_scratch_75 : decode (rm_code mM_scratch) 75 = .ok (.invokevirtual 113, 3) := by decide +kernel
theorem d_M_scratch_78 : decode (rm_code mM_scratch) 78 = .ok (.ireturn, 1) := by decide +kernel
theorem d_M_scratch_79 : decode (rm_code mM_scratch) 79 = .ok (.iload 4, 2) := by decide +kernel
theorem d_M_scratch_81 : decode (rm_code mM_scratch) 81 = .ok (.ifCond .ne (9), 3) := by decide +kernel
theorem d_M_scratch_84 : decode (rm_code mM_scratch) 84 = .ok (.aload_n 0, 1) := by decide +kernel
theorem d_M_scratch_85 : decode (rm_code mM_scratch) 85 = .ok (.invokevirtual 335, 3) := by decide +kernel
theorem d_M_scratch_88 : decode (rm_code mM_scratch) 88 = .ok (.istore 4, 2) := by decide +kernel
theorem d_M_scratch_90 : decode (rm_code mM_scratch) 90 = .ok (.iload 4, 2) := by decide +kernel
theorem d_M_scratch_92 : decode (rm_code mM_scratch) 92 = .ok (.ifCond .eq (6), 3) := by decide +kernel
theorem d_M_scratch_95 : decode (rm_code mM_scratch) 95 = .ok (.iload 4, 2) := by decide +kernel
theorem d_M_scratch_97 : decode (rm_code mM_scratch) 97 = .ok (.ireturn, 1) := by decide +kernel
theorem d_M_scratch_98 : decode (rm_code mM_scratch) 98 = .ok (.iload_n 3, 1) := by decide +kernel
theorem d_M_scratch_99 : decode (rm_code mM_scratch) 99 = .ok (.iconst 1, 1) := by decide +kernel
theorem d_M_scratch_100 : decode (rm_code mM_scratch) 100 = .ok (.iadd, 1) := by decide +kernel
theorem d_M_scratch_101 : decode (rm_code mM_scratch) 101 = .ok (.istore_n 3, 1) := by decide +kernel
theorem d_M_scratch_102 : decode (rm_code mM_scratch) 102 = .ok (.goto (-50), 3) := by decide +kernel
theorem p_M_scratch_0 {S : rz_S} {K : Int32 → rz_S → Prop} {a1 : Int32} (w : ((a1 - 2 = 0 → rz mM_scratch 14 [(0, .ref 116)] [] S (rz_i K)) ∧ (¬ a1 - 2 = 0 → ((a1 - 2 ≤ 10 → rz mM_scratch 25 [(0, .ref 116), (2, .int (a1 - 2)), (3, .int 0)] [] S (rz_i K)) ∧ (¬ a1 - 2 ≤ 10 → rz mM_scratch 14 [(0, .ref 116)] [] S (rz_i K)))))) : rz mM_scratch 0 [(0, .ref 116), (1, .int a1)] [] S (rz_i K) := by
  refine rz_pure (pc' := 1) d_M_scratch_0 rfl ?_
  refine rz_iconst (v := 2) d_M_scratch_1 (by decide) ?_
  refine rz_isub d_M_scratch_2 ?_
  refine rz_pure (pc' := 4) (l' := [(2, .int (a1 - 2)), (0, .ref 116), (1, .int a1)]) d_M_scratch_3 rfl ?_
  refine rz_pure (pc' := 5) d_M_scratch_4 rfl ?_
  refine rz_ifeq (tgt := 14) d_M_scratch_5 rfl (fun b1 => ?_) (fun b1 => ?_)
  · skip
    exact rz_pick (ks := [0]) (l := [(0, .ref 116)]) rfl rfl (by decide) rfl (w.1 b1)
  · skip
    refine rz_pure (pc' := 9) d_M_scratch_8 rfl ?_
    refine rz_bipush (v := 10) d_M_scratch_9 (by decide) ?_
    refine rz_icmple (tgt := 23) d_M_scratch_11 rfl (fun b2 => ?_) (fun b2 => ?_)
    · skip
      refine rz_iconst (v := 0) d_M_scratch_23 (by decide) ?_
      refine rz_pure (pc' := 25) (l' := [(3, .int 0), (2, .int (a1 - 2)), (0, .ref 116), (1, .int a1)]) d_M_scratch_24 rfl ?_
      exact rz_pick (ks := [0, 2, 3]) (l := [(0, .ref 116), (2, .int (a1 - 2)), (3, .int 0)]) rfl rfl (by decide) rfl ((w.2 b1).1 b2)
    · skip
      exact rz_pick (ks := [0]) (l := [(0, .ref 116)]) rfl rfl (by decide) rfl ((w.2 b1).2 b2)
theorem p_M_scratch_14 {S : rz_S} {K : Int32 → rz_S → Prop} (w : rz_ev mM_fault [.ref 116, .int 30, .int 0, .int 0] S (rz_i (fun xq1 Sq1 => K xq1 Sq1))) : rz mM_scratch 14 [(0, .ref 116)] [] S (rz_i K) := by
  refine rz_pure (pc' := 15) d_M_scratch_14 rfl ?_
  refine rz_bipush (v := 30) d_M_scratch_15 (by decide) ?_
  refine rz_iconst (v := 0) d_M_scratch_17 (by decide) ?_
  refine rz_iconst (v := 0) d_M_scratch_18 (by decide) ?_
  refine rz_callVi (t := [.int 0, .int 0, .int 30]) d_M_scratch_19 w_12_113 rfl rfl rfl w (fun xq1 Sq1 q1 => ?_)
  exact rz_ireti d_M_scratch_22 rfl rfl q1
theorem p_M_scratch_25 {S : rz_S} {K : Int32 → rz_S → Prop} {a2 : Int32} {a3 : Int32} (w : ((a2 ≤ a3 → rz mM_scratch 52 [(0, .ref 116), (2, .int a2), (3, .int 0)] [] S (rz_i K)) ∧ (¬ a2 ≤ a3 → rx_in (2 + a3) 401 = true ∧ rx_in a3 10 = true ∧ rz mM_scratch 25 [(0, .ref 116), (2, .int a2), (3, .int (a3 + 1))] [] (rz_fA S 154 (upd (S.1 154) a3.toNatClampNeg (S.1 151 ((2 + a3).toNatClampNeg)))) (rz_i K)))) : rz mM_scratch 25 [(0, .ref 116), (2, .int a2), (3, .int a3)] [] S (rz_i K) := by
  refine rz_pure (pc' := 26) d_M_scratch_25 rfl ?_
  refine rz_pure (pc' := 27) d_M_scratch_26 rfl ?_
  refine rz_icmpge (tgt := 50) d_M_scratch_27 rfl (fun b1 => ?_) (fun b1 => ?_)
  · skip
    refine rz_iconst (v := 0) d_M_scratch_50 (by decide) ?_
    refine rz_pure (pc' := 52) (l' := [(3, .int 0), (0, .ref 116), (2, .int a2)]) d_M_scratch_51 rfl ?_
    exact rz_pick (ks := [0, 2, 3]) (l := [(0, .ref 116), (2, .int a2), (3, .int 0)]) rfl rfl (by decide) rfl (w.1 b1)
  · skip
    refine rz_pure (pc' := 31) d_M_scratch_30 rfl ?_
    refine rz_getr d_M_scratch_31 f_12_587 rfl rfl ?_
    refine rz_pure (pc' := 35) d_M_scratch_34 rfl ?_
    refine rz_pure (pc' := 36) d_M_scratch_35 rfl ?_
    refine rz_getr d_M_scratch_36 f_12_260 rfl rfl ?_
    refine rz_iconst (v := 2) d_M_scratch_39 (by decide) ?_
    refine rz_pure (pc' := 41) d_M_scratch_40 rfl ?_
    refine rz_iadd d_M_scratch_41 ?_
    refine rz_ialdv (F := S.1 151) (i := (2 + a3).toNatClampNeg) d_M_scratch_42 rfl (w.2 b1).1 rfl rfl ?_
    refine rz_iastv (F := S.1 154) (i := a3.toNatClampNeg) d_M_scratch_43 rfl (w.2 b1).2.1 rfl rfl ?_
    refine rz_pure (pc' := 47) (l' := [(3, .int (a3 + 1)), (0, .ref 116), (2, .int a2)]) d_M_scratch_44 rfl ?_
    refine rz_pure (pc' := 25) d_M_scratch_47 rfl ?_
    exact rz_pick (ks := [0, 2, 3]) (l := [(0, .ref 116), (2, .int a2), (3, .int (a3 + 1))]) rfl rfl (by decide) rfl (w.2 b1).2.2
theorem p_M_scratch_52 {S : rz_S} {K : Int32 → rz_S → Prop} {a2 : Int32} {a3 : Int32} (w : rz_ev mM_finds [.ref 116, .int 0, .ref 154, .int 0, .int a2] S (rz_i (fun xq1 Sq1 => ((xq1 = (-1) → rz_ev mM_fault [.ref 116, .int 1, .int a3, .int 0] Sq1 (rz_i (fun xq5 Sq5 => K xq5 Sq5))) ∧ (¬ xq1 = (-1) → ((xq1 = 0 → rz_ev mM_scratches [.ref 116] Sq1 (rz_i (fun xq4 Sq4 => rz mM_scratch 90 [(0, .ref 116), (2, .int a2), (3, .int a3), (4, .int xq4)] [] Sq4 (rz_i K)))) ∧ (¬ xq1 = 0 → rz mM_scratch 90 [(0, .ref 116), (2, .int a2), (3, .int a3), (4, .int xq1)] [] Sq1 (rz_i K)))))))) : rz mM_scratch 52 [(0, .ref 116), (2, .int a2), (3, .int a3)] [] S (rz_i K) := by
  refine rz_pure (pc' := 53) d_M_scratch_52 rfl ?_
  refine rz_iconst (v := 0) d_M_scratch_53 (by decide) ?_
  refine rz_pure (pc' := 55) d_M_scratch_54 rfl ?_
  refine rz_getr d_M_scratch_55 f_12_587 rfl rfl ?_
  refine rz_iconst (v := 0) d_M_scratch_58 (by decide) ?_
  refine rz_pure (pc' := 60) d_M_scratch_59 rfl ?_
  refine rz_callVi (t := [.int a2, .int 0, .ref 154, .int 0]) d_M_scratch_60 w_12_325 rfl rfl rfl w (fun xq1 Sq1 q1 => ?_)
  refine rz_pure (pc' := 65) (l' := [(4, .int xq1), (0, .ref 116), (2, .int a2), (3, .int a3)]) d_M_scratch_63 rfl ?_
  refine rz_pure (pc' := 67) d_M_scratch_65 rfl ?_
  refine rz_iconst (v := -1) d_M_scratch_67 (by decide) ?_
  refine rz_icmpne (tgt := 79) d_M_scratch_68 rfl (fun b2 => ?_) (fun b2 => ?_)
  · skip
    refine rz_pure (pc' := 81) d_M_scratch_79 rfl ?_
    refine rz_ifne (tgt := 90) d_M_scratch_81 rfl (fun b3 => ?_) (fun b3 => ?_)
    · skip
      exact rz_pick (ks := [0, 2, 3, 4]) (l := [(0, .ref 116), (2, .int a2), (3, .int a3), (4, .int xq1)]) rfl rfl (by decide) rfl ((q1.2 b2).2 b3)
    · skip
      refine rz_pure (pc' := 85) d_M_scratch_84 rfl ?_
      refine rz_callVi (t := []) d_M_scratch_85 w_12_335 rfl rfl rfl ((q1.2 b2).1 b3) (fun xq4 Sq4 q4 => ?_)
      refine rz_pure (pc' := 90) (l' := [(4, .int xq4), (0, .ref 116), (2, .int a2), (3, .int a3)]) d_M_scratch_88 rfl ?_
      exact rz_pick (ks := [0, 2, 3, 4]) (l := [(0, .ref 116), (2, .int a2), (3, .int a3), (4, .int xq4)]) rfl rfl (by decide) rfl q4
  · skip
    refine rz_pure (pc' := 72) d_M_scratch_71 rfl ?_
    refine rz_iconst (v := 1) d_M_scratch_72 (by decide) ?_
    refine rz_pure (pc' := 74) d_M_scratch_73 rfl ?_
    refine rz_iconst (v := 0) d_M_scratch_74 (by decide) ?_
    refine rz_callVi (t := [.int 0, .int a3, .int 1]) d_M_scratch_75 w_12_113 rfl rfl rfl (q1.1 b2) (fun xq5 Sq5 q5 => ?_)
    exact rz_ireti d_M_scratch_78 rfl rfl q5
theorem p_M_scratch_90 {S : rz_S} {K : Int32 → rz_S → Prop} {a2 : Int32} {a3 : Int32} {a4 : Int32} (w : ((a4 = 0 → rz mM_scratch 52 [(0, .ref 116), (2, .int a2), (3, .int (a3 + 1))] [] S (rz_i K)) ∧ (¬ a4 = 0 → K a4 S))) : rz mM_scratch 90 [(0, .ref 116), (2, .int a2), (3, .int a3), (4, .int a4)] [] S (rz_i K) := by
  refine rz_pure (pc' := 92) d_M_scratch_90 rfl ?_
  refine rz_ifeq (tgt := 98) d_M_scratch_92 rfl (fun b1 => ?_) (fun b1 => ?_)
  · skip
    refine rz_pure (pc' := 99) d_M_scratch_98 rfl ?_
    refine rz_iconst (v := 1) d_M_scratch_99 (by decide) ?_
    refine rz_iadd d_M_scratch_100 ?_
    refine rz_pure (pc' := 102) (l' := [(3, .int (a3 + 1)), (0, .ref 116), (2, .int a2), (4, .int a4)]) d_M_scratch_101 rfl ?_
    refine rz_pure (pc' := 52) d_M_scratch_102 rfl ?_
    exact rz_pick (ks := [0, 2, 3]) (l := [(0, .ref 116), (2, .int a2), (3, .int (a3 + 1))]) rfl rfl (by decide) rfl (w.1 b1)
  · skip
    refine rz_pure (pc' := 97) d_M_scratch_95 rfl ?_
    exact rz_ireti d_M_scratch_97 rfl rfl (w.2 b1)
theorem d_M_renames_0 : decode (rm_code mM_renames) 0 = .ok (.iconst 2, 1) := by decide +kernel
theorem d_M_renames_1 : decode (rm_code mM_renames) 1 = .ok (.istore_n 2, 1) := by decide +kernel
theorem d_M_renames_2 : decode (rm_code mM_renames) 2 = .ok (.iload_n 2, 1) := by decide +kernel
theorem d_M_renames_3 : decode (rm_code mM_renames) 3 = .ok (.iload_n 1, 1) := by decide +kernel
theorem d_M_renames_4 : decode (rm_code mM_renames) 4 = .ok (.if_icmp .ge (21), 3) := by decide +kernel
theorem d_M_renames_7 : decode (rm_code mM_renames) 7 = .ok (.aload_n 0, 1) := by decide +kernel
theorem d_M_renames_8 : decode (rm_code mM_renames) 8 = .ok (.getfield 260, 3) := by decide +kernel
theorem d_M_renames_11 : decode (rm_code mM_renames) 11 = .ok (.iload_n 2, 1) := by decide +kernel
theorem d_M_renames_12 : decode (rm_code mM_renames) 12 = .ok (.iaload, 1) := by decide +kernel
theorem d_M_renames_13 : decode (rm_code mM_renames) 13 = .ok (.bipush (61), 2) := by decide +kernel
theorem d_M_renames_15 : decode (rm_code mM_renames) 15 = .ok (.if_icmp .eq (10), 3) := by decide +kernel
theorem d_M_renames_18 : decode (rm_code mM_renames) 18 = .ok (.iload_n 2, 1) := by decide +kernel
theorem d_M_renames_19 : decode (rm_code mM_renames) 19 = .ok (.iconst 1, 1) := by decide +kernel
theorem d_M_renames_20 : decode (rm_code mM_renames) 20 = .ok (.iadd, 1) := by decide +kernel
theorem d_M_renames_21 : decode (rm_code mM_renames) 21 = .ok (.istore_n 2, 1) := by decide +kernel
theorem d_M_renames_22 : decode (rm_code mM_renames) 22 = .ok (.goto (-20), 3) := by decide +kernel
theorem d_M_renames_25 : decode (rm_code mM_renames) 25 = .ok (.iload_n 2, 1) := by decide +kernel
theorem d_M_renames_26 : decode (rm_code mM_renames) 26 = .ok (.iconst 2, 1) := by decide +kernel
theorem d_M_renames_27 : decode (rm_code mM_renames) 27 = .ok (.isub, 1) := by decide +kernel
theorem d_M_renames_28 : decode (rm_code mM_renames) 28 = .ok (.istore_n 3, 1) := by decide +kernel
theorem d_M_renames_29 : decode (rm_code mM_renames) 29 = .ok (.iload_n 1, 1) := by decide +kernel
theorem d_M_renames_30 : decode (rm_code mM_renames) 30 = .ok (.iload_n 2, 1) := by decide +kernel
theorem d_M_renames_31 : decode (rm_code mM_renames) 31 = .ok (.isub, 1) := by decide +kernel
theorem d_M_renames_32 : decode (rm_code mM_renames) 32 = .ok (.iconst 1, 1) := by decide +kernel
theorem d_M_renames_33 : decode (rm_code mM_renames) 33 = .ok (.isub, 1) := by decide +kernel
theorem d_M_renames_34 : decode (rm_code mM_renames) 34 = .ok (.istore 4, 2) := by decide +kernel
theorem d_M_renames_36 : decode (rm_code mM_renames) 36 = .ok (.iload_n 2, 1) := by decide +kernel
theorem d_M_renames_37 : decode (rm_code mM_renames) 37 = .ok (.iload_n 1, 1) := by decide +kernel
theorem d_M_renames_38 : decode (rm_code mM_renames) 38 = .ok (.if_icmp .eq (26), 3) := by decide +kernel
theorem d_M_renames_41 : decode (rm_code mM_renames) 41 = .ok (.iload_n 3, 1) := by decide +kernel
theorem d_M_renames_42 : decode (rm_code mM_renames) 42 = .ok (.ifCond .eq (22), 3) := by decide +kernel
theorem d_M_renames_45 : decode (rm_code mM_renames) 45 = .ok (.iload_n 3, 1) := by decide +kernel
theorem d_M_renames_46 : decode (rm_code mM_renames) 46 = .ok (.bipush (10), 2) := by decide +kernel
theorem d_M_renames_48 : decode (rm_code mM_renames) 48 = .ok (.if_icmp .gt (16), 3) := by decide +kernel
theorem d_M_renames_51 : decode (rm_code mM_renames) 51 = .ok (.iload 4, 2) := by decide +kernel
theorem d_M_renames_53 : decode (rm_code mM_renames) 53 = .ok (.iconst 1, 1) := by decide +kernel
theorem d_M_renames_54 : decode (rm_code mM_renames) 54 = .ok (.if_icmp .lt (10), 3) := by decide +kernel
theorem d_M_renames_57 : decode (rm_code mM_renames) 57 = .ok (.iload 4, 2) := by decide +kernel
theorem d_M_renames_59 : decode (rm_code mM_renames) 59 = .ok (.bipush (10), 2) := by decide +kernel
theorem d_M_renames_61 : decode (rm_code mM_renames) 61 = .ok (.if_icmp .le (12), 3) := by decide +kernel
theorem d_M_renames_64 : decode (rm_code mM_renames) 64 = .ok (.aload_n 0, 1) := by decide +kernel
theorem d_M_renames_65 : decode (rm_code mM_renames) 65 = .ok (.bipush (30), 2) := by decide +kernel
theorem d_M_renames_67 : decode (rm_code mM_renames) 67 = .ok (.iconst 0, 1) := by decide +kernel
theorem d_M_renames_68 : decode (rm_code mM_renames) 68 = .ok (.iconst 0, 1) := by decide +kernel
theorem d_M_renames_69 : decode (rm_code mM_renames) 69 = .ok (.invokevirtual 113, 3) := by decide +kernel
theorem d_M_renames_72 : decode (rm_code mM_renames) 72 = .ok (.ireturn, 1) := by decide +kernel
theorem d_M_renames_73 : decode (rm_code mM_renames) 73 = .ok (.aload_n 0, 1) := by decide +kernel
theorem d_M_renames_74 : decode (rm_code mM_renames) 74 = .ok (.iconst 2, 1) := by decide +kernel
theorem d_M_renames_75 : decode (rm_code mM_renames) 75 = .ok (.iload_n 3, 1) := by decide +kernel
theorem d_M_renames_76 : decode (rm_code mM_renames) 76 = .ok (.invokevirtual 332, 3) := by decide +kernel
theorem d_M_renames_79 : decode (rm_code mM_renames) 79 = .ok (.ifCond .ne (15), 3) := by decide +kernel
theorem d_M_renames_82 : decode (rm_code mM_renames) 82 = .ok (.aload_n 0, 1) := by decide +kernel
theorem d_M_renames_83 : decode (rm_code mM_renames) 83 = .ok (.iload_n 2, 1) := by decide +kernel
theorem d_M_renames_84 : decode (rm_code mM_renames) 84 = .ok (.iconst 1, 1) := by decide +kernel
theorem d_M_renames_85 : decode (rm_code mM_renames) 85 = .ok (.iadd, 1) := by decide +kernel
theorem d_M_renames_86 : decode (rm_code mM_renames) 86 = .ok (.iload 4, 2) := by decide +kernel
theorem d_M_renames_88 : decode (rm_code mM_renames) 88 = .ok (.invokevirtual 332, 3) := by decide +kernel
theorem d_M_renames_91 : decode (rm_code mM_renames) 91 = .ok (.ifCond .eq (12), 3) := by decide +kernel
theorem d_M_renames_94 : decode (rm_code mM_renames) 94 = .ok (.aload_n 0, 1) := by decide +kernel
theorem d_M_renames_95 : decode (rm_code mM_renames) 95 = .ok (.bipush (33), 2) := by decide +kernel
theorem d_M_renames_97 : decode (rm_code mM_renames) 97 = .ok (.iconst 0, 1) := by decide +kernel
theorem d_M_renames_98 : decode (rm_code mM_renames) 98 = .ok (.iconst 0, 1) := by decide +kernel
theorem d_M_renames_99 : decode (rm_code mM_renames) 99 = .ok (.invokevirtual 113, 3) := by decide +kernel
theorem d_M_renames_102 : decode (rm_code mM_renames) 102 = .ok (.ireturn, 1) := by decide +kernel
theorem d_M_renames_103 : decode (rm_code mM_renames) 103 = .ok (.aload_n 0, 1) := by decide +kernel
theorem d_M_renames_104 : decode (rm_code mM_renames) 104 = .ok (.iconst 1, 1) := by decide +kernel
theorem d_M_renames_105 : decode (rm_code mM_renames) 105 = .ok (.aload_n 0, 1) := by decide +kernel
theorem d_M_renames_106 : decode (rm_code mM_renames) 106 = .ok (.getfield 260, 3) := by decide +kernel
theorem d_M_renames_109 : decode (rm_code mM_renames) 109 = .ok (.iconst 2, 1) := by decide +kernel
theorem d_M_renames_110 : decode (rm_code mM_renames) 110 = .ok (.iload_n 3, 1) := by decide +kernel
theorem d_M_renames_111 : decode (rm_code mM_renames) 111 = .ok (.invokevirtual 325, 3) := by decide +kernel
theorem d_M_renames_114 : decode (rm_code mM_renames) 114 = .ok (.istore 5, 2) := by decide +kernel
theorem d_M_renames_116 : decode (rm_code mM_renames) 116 = .ok (.iload 5, 2) := by decide +kernel
theorem d_M_renames_118 : decode (rm_code mM_renames) 118 = .ok (.ifCond .ne (12), 3) := by decide +kernel
theorem d_M_renames_121 : decode (rm_code mM_renames) 121 = .ok (.aload_n 0, 1) := by decide +kernel
theorem d_M_renames_122 : decode (rm_code mM_renames) 122 = .ok (.bipush (63), 2) := by decide +kernel
theorem d_M_renames_124 : decode (rm_code mM_renames) 124 = .ok (.iconst 0, 1) := by decide +kernel
theorem d_M_renames_125 : decode (rm_code mM_renames) 125 = .ok (.iconst 0, 1) := by decide +kernel
theorem d_M_renames_126 : decode (rm_code mM_renames) 126 = .ok (.invokevirtual 113, 3) := by decide +kernel
theorem d_M_renames_129 : decode (rm_code mM_renames) 129 = .ok (.ireturn, 1) := by decide +kernel
theorem d_M_renames_130 : decode (rm_code mM_renames) 130 = .ok (.iload 5, 2) := by decide +kernel
theorem d_M_renames_132 : decode (rm_code mM_renames) 132 = .ok (.ifCond .le (6), 3) := by decide +kernel
theorem d_M_renames_135 : decode (rm_code mM_renames) 135 = .ok (.iload 5, 2) := by decide +kernel
theorem d_M_renames_137 : decode (rm_code mM_renames) 137 = .ok (.ireturn, 1) := by decide +kernel
theorem d_M_renames_138 : decode (rm_code mM_renames) 138 = .ok (.aload_n 0, 1) := by decide +kernel
theorem d_M_renames_139 : decode (rm_code mM_renames) 139 = .ok (.iconst 1, 1) := by decide +kernel
theorem d_M_renames_140 : decode (rm_code mM_renames) 140 = .ok (.aload_n 0, 1) := by decide +kernel
theorem d_M_renames_141 : decode (rm_code mM_renames) 141 = .ok (.getfield 260, 3) := by decide +kernel
theorem d_M_renames_144 : decode (rm_code mM_renames) 144 = .ok (.iload_n 2, 1) := by decide +kernel
theorem d_M_renames_145 : decode (rm_code mM_renames) 145 = .ok (.iconst 1, 1) := by decide +kernel
theorem d_M_renames_146 : decode (rm_code mM_renames) 146 = .ok (.iadd, 1) := by decide +kernel
theorem d_M_renames_147 : decode (rm_code mM_renames) 147 = .ok (.iload 4, 2) := by decide +kernel
theorem d_M_renames_149 : decode (rm_code mM_renames) 149 = .ok (.invokevirtual 325, 3) := by decide +kernel
theorem d_M_renames_152 : decode (rm_code mM_renames) 152 = .ok (.istore 5, 2) := by decide +kernel
theorem d_M_renames_154 : decode (rm_code mM_renames) 154 = .ok (.iload 5, 2) := by decide +kernel
theorem d_M_renames_156 : decode (rm_code mM_renames) 156 = .ok (.iconst (-1), 1) := by decide +kernel
theorem d_M_renames_157 : decode (rm_code mM_renames) 157 = .ok (.if_icmp .ne (12), 3) := by decide +kernel
theorem d_M_renames_160 : decode (rm_code mM_renames) 160 = .ok (.aload_n 0, 1) := by decide +kernel
theorem d_M_renames_161 : decode (rm_code mM_renames) 161 = .ok (.bipush (62), 2) := by decide +kernel
theorem d_M_renames_163 : decode (rm_code mM_renames) 163 = .ok (.iconst 0, 1) := by decide +kernel
theorem d_M_renames_164 : decode (rm_code mM_renames) 164 = .ok (.iconst 0, 1) := by decide +kernel
theorem d_M_renames_165 : decode (rm_code mM_renames) 165 = .ok (.invokevirtual 113, 3) := by decide +kernel
theorem d_M_renames_168 : decode (rm_code mM_renames) 168 = .ok (.ireturn, 1) := by decide +kernel
theorem d_M_renames_169 : decode (rm_code mM_renames) 169 = .ok (.iload 5, 2) := by decide +kernel
theorem d_M_renames_171 : decode (rm_code mM_renames) 171 = .ok (.ifCond .eq (6), 3) := by decide +kernel
theorem d_M_renames_174 : decode (rm_code mM_renames) 174 = .ok (.iload 5, 2) := by decide +kernel
theorem d_M_renames_176 : decode (rm_code mM_renames) 176 = .ok (.ireturn, 1) := by decide +kernel
theorem d_M_renames_177 : decode (rm_code mM_renames) 177 = .ok (.aload_n 0, 1) := by decide +kernel
theorem d_M_renames_178 : decode (rm_code mM_renames) 178 = .ok (.aload_n 0, 1) := by decide +kernel
theorem d_M_renames_179 : decode (rm_code mM_renames) 179 = .ok (.getfield 211, 3) := by decide +kernel
theorem d_M_renames_182 : decode (rm_code mM_renames) 182 = .ok (.aload_n 0, 1) := by decide +kernel
theorem d_M_renames_183 : decode (rm_code mM_renames) 183 = .ok (.getfield 214, 3) := by decide +kernel
theorem d_M_renames_186 : decode (rm_code mM_renames) 186 = .ok (.aload_n 0, 1) := by decide +kernel
theorem d_M_renames_187 : decode (rm_code mM_renames) 187 = .ok (.getfield 186, 3) := by decide +kernel
theorem d_M_renames_190 : decode (rm_code mM_renames) 190 = .ok (.iconst 0, 1) := by decide +kernel
theorem d_M_renames_191 : decode (rm_code mM_renames) 191 = .ok (.invokevirtual 148, 3) := by decide +kernel
theorem d_M_renames_194 : decode (rm_code mM_renames) 194 = .ok (.istore 5, 2) := by decide +kernel
theorem d_M_renames_196 : decode (rm_code mM_renames) 196 = .ok (.iload 5, 2) := by decide +kernel
theorem d_M_renames_198 : decode (rm_code mM_renames) 198 = .ok (.ifCond .eq (6), 3) := by decide +kernel
theorem d_M_renames_201 : decode (rm_code mM_renames) 201 = .ok (.iload 5, 2) := by decide +kernel
theorem d_M_renames_203 : decode (rm_code mM_renames) 203 = .ok (.ireturn, 1) := by decide +kernel
theorem d_M_renames_204 : decode (rm_code mM_renames) 204 = .ok (.iconst 0, 1) := by decide +kernel
theorem d_M_renames_205 : decode (rm_code mM_renames) 205 = .ok (.istore 6, 2) := by decide +kernel
theorem d_M_renames_207 : decode (rm_code mM_renames) 207 = .ok (.iload 6, 2) := by decide +kernel
theorem d_M_renames_209 : decode (rm_code mM_renames) 209 = .ok (.bipush (10), 2) := by decide +kernel
theorem d_M_renames_211 : decode (rm_code mM_renames) 211 = .ok (.if_icmp .ge (47), 3) := by decide +kernel
theorem d_M_renames_214 : decode (rm_code mM_renames) 214 = .ok (.aload_n 0, 1) := by decide +kernel
theorem d_M_renames_215 : decode (rm_code mM_renames) 215 = .ok (.getfield 186, 3) := by decide +kernel
theorem d_M_renames_218 : decode (rm_code mM_renames) 218 = .ok (.bipush (16), 2) := by decide +kernel
theorem d_M_renames_220 : decode (rm_code mM_renames) 220 = .ok (.aload_n 0, 1) := by decide +kernel
theorem d_M_renames_221 : decode (rm_code mM_renames) 221 = .ok (.getfield 217, 3) := by decide +kernel
theorem d_M_renames_224 : decode (rm_code mM_renames) 224 = .ok (.imul, 1) := by decide +kernel
theorem d_M_renames_225 : decode (rm_code mM_renames) 225 = .ok (.iconst 5, 1) := by decide +kernel
theorem d_M_renames_226 : decode (rm_code mM_renames) 226 = .ok (.iadd, 1) := by decide +kernel
theorem d_M_renames_227 : decode (rm_code mM_renames) 227 = .ok (.iload 6, 2) := by decide +kernel
theorem d_M_renames_229 : decode (rm_code mM_renames) 229 = .ok (.iadd, 1) := by decide +kernel
theorem d_M_renames_230 : decode (rm_code mM_renames) 230 = .ok (.iload 6, 2) := by decide +kernel
theorem d_M_renames_232 : decode (rm_code mM_renames) 232 = .ok (.iload_n 3, 1) := by decide +kernel
theorem d_M_renames_233 : decode (rm_code mM_renames) 233 = .ok (.if_icmp .ge (15), 3) := by decide +kernel
theorem d_M_renames_236 : decode (rm_code mM_renames) 236 = .ok (.aload_n 0, 1) := by decide +kernel
theorem d_M_renames_237 : decode (rm_code mM_renames) 237 = .ok (.getfield 260, 3) := by decide +kernel
theorem d_M_renames_240 : decode (rm_code mM_renames) 240 = .ok (.iconst 2, 1) := by decide +kernel
theorem d_M_renames_241 : decode (rm_code mM_renames) 241 = .ok (.iload 6, 2) := by decide +kernel
theorem d_M_renames_243 : decode (rm_code mM_renames) 243 = .ok (.iadd, 1) := by decide +kernel
theorem d_M_renames_244 : decode (rm_code mM_renames) 244 = .ok (.iaload, 1) := by decide +kernel
theorem d_M_renames_245 : decode (rm_code mM_renames) 245 = .ok (.goto (6), 3) := by decide +kernel
theorem d_M_renames_248 : decode (rm_code mM_renames) 248 = .ok (.sipush (160), 3) := by decide +kernel
theorem d_M_renames_251 : decode (rm_code mM_renames) 251 = .ok (.iastore, 1) := by decide +kernel
theorem d_M_renames_252 : decode (rm_code mM_renames) 252 = .ok (.iinc 6 (1), 3) := by decide +kernel
theorem d_M_renames_255 : decode (rm_code mM_renames) 255 = .ok (.goto (-48), 3) := by decide +kernel
theorem d_M_renames_258 : decode (rm_code mM_renames) 258 = .ok (.aload_n 0, 1) := by decide +kernel
theorem d_M_renames_259 : decode (rm_code mM_renames) 259 = .ok (.aload_n 0, 1) := by decide +kernel
theorem d_M_renames_260 : decode (rm_code mM_renames) 260 = .ok (.getfield 211, 3) := by decide +kernel
theorem d_M_renames_263 : decode (rm_code mM_renames) 263 = .ok (.aload_n 0, 1) := by decide +kernel
theorem d_M_renames_264 : decode (rm_code mM_renames) 264 = .ok (.getfield 214, 3) := by decide +kernel
theorem d_M_renames_267 : decode (rm_code mM_renames) 267 = .ok (.aload_n 0, 1) := by decide +kernel
theorem d_M_renames_268 : decode (rm_code mM_renames) 268 = .ok (.getfield 186, 3) := by decide +kernel
theorem d_M_renames_271 : decode (rm_code mM_renames) 271 = .ok (.iconst 0, 1) := by decide +kernel
theorem d_M_renames_272 : decode (rm_code mM_renames) 272 = .ok (.invokevirtual 152, 3) := by decide +kernel
theorem d_M_renames_275 : decode (rm_code mM_renames) 275 = .ok (.ireturn, 1) := by decide +kernel
theorem p_M_renames_0 {S : rz_S} {K : Int32 → rz_S → Prop} {a1 : Int32} (w : rz mM_renames 2 [(0, .ref 116), (1, .int a1), (2, .int 2)] [] S (rz_i K)) : rz mM_renames 0 [(0, .ref 116), (1, .int a1)] [] S (rz_i K) := by
  refine rz_iconst (v := 2) d_M_renames_0 (by decide) ?_
  refine rz_pure (pc' := 2) (l' := [(2, .int 2), (0, .ref 116), (1, .int a1)]) d_M_renames_1 rfl ?_
  exact rz_pick (ks := [0, 1, 2]) (l := [(0, .ref 116), (1, .int a1), (2, .int 2)]) rfl rfl (by decide) rfl w
theorem p_M_renames_2 {S : rz_S} {K : Int32 → rz_S → Prop} {a1 : Int32} {a2 : Int32} (w : ((a1 ≤ a2 → rz mM_renames 25 [(0, .ref 116), (1, .int a1), (2, .int a2)] [] S (rz_i K)) ∧ (¬ a1 ≤ a2 → rx_in a2 401 = true ∧ ((S.1 151 a2.toNatClampNeg = 61 → rz mM_renames 25 [(0, .ref 116), (1, .int a1), (2, .int a2)] [] S (rz_i K)) ∧ (¬ S.1 151 a2.toNatClampNeg = 61 → rz mM_renames 2 [(0, .ref 116), (1, .int a1), (2, .int (a2 + 1))] [] S (rz_i K)))))) : rz mM_renames 2 [(0, .ref 116), (1, .int a1), (2, .int a2)] [] S (rz_i K) := by
  refine rz_pure (pc' := 3) d_M_renames_2 rfl ?_
  refine rz_pure (pc' := 4) d_M_renames_3 rfl ?_
  refine rz_icmpge (tgt := 25) d_M_renames_4 rfl (fun b1 => ?_) (fun b1 => ?_)
  · skip
    exact rz_pick (ks := [0, 1, 2]) (l := [(0, .ref 116), (1, .int a1), (2, .int a2)]) rfl rfl (by decide) rfl (w.1 b1)
  · skip
    refine rz_pure (pc' := 8) d_M_renames_7 rfl ?_
    refine rz_getr d_M_renames_8 f_12_260 rfl rfl ?_
    refine rz_pure (pc' := 12) d_M_renames_11 rfl ?_
    refine rz_ialdv (F := S.1 151) (i := a2.toNatClampNeg) d_M_renames_12 rfl (w.2 b1).1 rfl rfl ?_
    refine rz_bipush (v := 61) d_M_renames_13 (by decide) ?_
    refine rz_icmpeq (tgt := 25) d_M_renames_15 rfl (fun b2 => ?_) (fun b2 => ?_)
    · skip
      exact rz_pick (ks := [0, 1, 2]) (l := [(0, .ref 116), (1, .int a1), (2, .int a2)]) rfl rfl (by decide) rfl ((w.2 b1).2.1 b2)
    · skip
      refine rz_pure (pc' := 19) d_M_renames_18 rfl ?_
      refine rz_iconst (v := 1) d_M_renames_19 (by decide) ?_
      refine rz_iadd d_M_renames_20 ?_
      refine rz_pure (pc' := 22) (l' := [(2, .int (a2 + 1)), (0, .ref 116), (1, .int a1)]) d_M_renames_21 rfl ?_
      refine rz_pure (pc' := 2) d_M_renames_22 rfl ?_
      exact rz_pick (ks := [0, 1, 2]) (l := [(0, .ref 116), (1, .int a1), (2, .int (a2 + 1))]) rfl rfl (by decide) rfl ((w.2 b1).2.2 b2)
theorem p_M_renames_25 {S : rz_S} {K : Int32 → rz_S → Prop} {a1 : Int32} {a2 : Int32} (w : ((a2 = a1 → rz mM_renames 64 [(0, .ref 116)] [] S (rz_i K)) ∧ (¬ a2 = a1 → ((a2 - 2 = 0 → rz mM_renames 64 [(0, .ref 116)] [] S (rz_i K)) ∧ (¬ a2 - 2 = 0 → ((10 < a2 - 2 → rz mM_renames 64 [(0, .ref 116)] [] S (rz_i K)) ∧ (¬ 10 < a2 - 2 → (((a1 - a2) - 1 < 1 → rz mM_renames 64 [(0, .ref 116)] [] S (rz_i K)) ∧ (¬ (a1 - a2) - 1 < 1 → (((a1 - a2) - 1 ≤ 10 → rz_ev mM_isWild [.ref 116, .int 2, .int (a2 - 2)] S (rz_i (fun xq6 Sq6 => ((xq6 = 0 → rz_ev mM_isWild [.ref 116, .int (a2 + 1), .int ((a1 - a2) - 1)] Sq6 (rz_i (fun xq8 Sq8 => ((xq8 = 0 → rz_ev mM_finds [.ref 116, .int 1, .ref 151, .int 2, .int (a2 - 2)] Sq8 (rz_i (fun xq10 Sq10 => ((xq10 = 0 → rz_ev mM_fault [.ref 116, .int 63, .int 0, .int 0] Sq10 (rz_i (fun xq19 Sq19 => K xq19 Sq19))) ∧ (¬ xq10 = 0 → ((xq10 ≤ 0 → rz_ev mM_finds [.ref 116, .int 1, .ref 151, .int (a2 + 1), .int ((a1 - a2) - 1)] Sq10 (rz_i (fun xq13 Sq13 => ((xq13 = (-1) → rz_ev mM_fault [.ref 116, .int 62, .int 0, .int 0] Sq13 (rz_i (fun xq18 Sq18 => K xq18 Sq18))) ∧ (¬ xq13 = (-1) → ((xq13 = 0 → rz_ev mM_readBlock [.ref 116, .int (Sq13.2 116 27), .int (Sq13.2 116 28), .ref 125, .int 0] Sq13 (rz_i (fun xq16 Sq16 => ((xq16 = 0 → rz mM_renames 207 [(0, .ref 116), (3, .int (a2 - 2)), (6, .int 0)] [] Sq16 (rz_i K)) ∧ (¬ xq16 = 0 → K xq16 Sq16))))) ∧ (¬ xq13 = 0 → K xq13 Sq13))))))) ∧ (¬ xq10 ≤ 0 → K xq10 Sq10))))))) ∧ (¬ xq8 = 0 → rz mM_renames 94 [(0, .ref 116)] [] Sq8 (rz_i K)))))) ∧ (¬ xq6 = 0 → rz mM_renames 94 [(0, .ref 116)] [] Sq6 (rz_i K)))))) ∧ (¬ (a1 - a2) - 1 ≤ 10 → rz mM_renames 64 [(0, .ref 116)] [] S (rz_i K)))))))))))) : rz mM_renames 25 [(0, .ref 116), (1, .int a1), (2, .int a2)] [] S (rz_i K) := by
  refine rz_pure (pc' := 26) d_M_renames_25 rfl ?_
  refine rz_iconst (v := 2) d_M_renames_26 (by decide) ?_
  refine rz_isub d_M_renames_27 ?_
  refine rz_pure (pc' := 29) (l' := [(3, .int (a2 - 2)), (0, .ref 116), (1, .int a1), (2, .int a2)]) d_M_renames_28 rfl ?_
  refine rz_pure (pc' := 30) d_M_renames_29 rfl ?_
  refine rz_pure (pc' := 31) d_M_renames_30 rfl ?_
  refine rz_isub d_M_renames_31 ?_
  refine rz_iconst (v := 1) d_M_renames_32 (by decide) ?_
  refine rz_isub d_M_renames_33 ?_
  refine rz_pure (pc' := 36) (l' := [(4, .int ((a1 - a2) - 1)), (3, .int (a2 - 2)), (0, .ref 116), (1, .int a1), (2, .int a2)]) d_M_renames_34 rfl ?_
  refine rz_pure (pc' := 37) d_M_renames_36 rfl ?_
  refine rz_pure (pc' := 38) d_M_renames_37 rfl ?_
  refine rz_icmpeq (tgt := 64) d_M_renames_38 rfl (fun b1 => ?_) (fun b1 => ?_)
  · skip
    exact rz_pick (ks := [0]) (l := [(0, .ref 116)]) rfl rfl (by decide) rfl (w.1 b1)
  · skip
    refine rz_pure (pc' := 42) d_M_renames_41 rfl ?_
    refine rz_ifeq (tgt := 64) d_M_renames_42 rfl (fun b2 => ?_) (fun b2 => ?_)
    · skip
      exact rz_pick (ks := [0]) (l := [(0, .ref 116)]) rfl rfl (by decide) rfl ((w.2 b1).1 b2)
    · skip
      refine rz_pure (pc' := 46) d_M_renames_45 rfl ?_
      refine rz_bipush (v := 10) d_M_renames_46 (by decide) ?_
      refine rz_icmpgt (tgt := 64) d_M_renames_48 rfl (fun b3 => ?_) (fun b3 => ?_)
      · skip
        exact rz_pick (ks := [0]) (l := [(0, .ref 116)]) rfl rfl (by decide) rfl (((w.2 b1).2 b2).1 b3)
      · skip
        refine rz_pure (pc' := 53) d_M_renames_51 rfl ?_
        refine rz_iconst (v := 1) d_M_renames_53 (by decide) ?_
        refine rz_icmplt (tgt := 64) d_M_renames_54 rfl (fun b4 => ?_) (fun b4 => ?_)
        · skip
          exact rz_pick (ks := [0]) (l := [(0, .ref 116)]) rfl rfl (by decide) rfl ((((w.2 b1).2 b2).2 b3).1 b4)
        · skip
          refine rz_pure (pc' := 59) d_M_renames_57 rfl ?_
          refine rz_bipush (v := 10) d_M_renames_59 (by decide) ?_
          refine rz_icmple (tgt := 73) d_M_renames_61 rfl (fun b5 => ?_) (fun b5 => ?_)
          · skip
            refine rz_pure (pc' := 74) d_M_renames_73 rfl ?_
            refine rz_iconst (v := 2) d_M_renames_74 (by decide) ?_
            refine rz_pure (pc' := 76) d_M_renames_75 rfl ?_
            refine rz_callVi (t := [.int (a2 - 2), .int 2]) d_M_renames_76 w_12_332 rfl rfl rfl (((((w.2 b1).2 b2).2 b3).2 b4).1 b5) (fun xq6 Sq6 q6 => ?_)
            refine rz_ifne (tgt := 94) d_M_renames_79 rfl (fun b7 => ?_) (fun b7 => ?_)
            · skip
              exact rz_pick (ks := [0]) (l := [(0, .ref 116)]) rfl rfl (by decide) rfl (q6.2 b7)
            · skip
              refine rz_pure (pc' := 83) d_M_renames_82 rfl ?_
              refine rz_pure (pc' := 84) d_M_renames_83 rfl ?_
              refine rz_iconst (v := 1) d_M_renames_84 (by decide) ?_
              refine rz_iadd d_M_renames_85 ?_
              refine rz_pure (pc' := 88) d_M_renames_86 rfl ?_
              refine rz_callVi (t := [.int ((a1 - a2) - 1), .int (a2 + 1)]) d_M_renames_88 w_12_332 rfl rfl rfl (q6.1 b7) (fun xq8 Sq8 q8 => ?_)
              refine rz_ifeq (tgt := 103) d_M_renames_91 rfl (fun b9 => ?_) (fun b9 => ?_)
              · skip
                refine rz_pure (pc' := 104) d_M_renames_103 rfl ?_
                refine rz_iconst (v := 1) d_M_renames_104 (by decide) ?_
                refine rz_pure (pc' := 106) d_M_renames_105 rfl ?_
                refine rz_getr d_M_renames_106 f_12_260 rfl rfl ?_
                refine rz_iconst (v := 2) d_M_renames_109 (by decide) ?_
                refine rz_pure (pc' := 111) d_M_renames_110 rfl ?_
                refine rz_callVi (t := [.int (a2 - 2), .int 2, .ref 151, .int 1]) d_M_renames_111 w_12_325 rfl rfl rfl (q8.1 b9) (fun xq10 Sq10 q10 => ?_)
                refine rz_pure (pc' := 116) (l' := [(5, .int xq10), (4, .int ((a1 - a2) - 1)), (3, .int (a2 - 2)), (0, .ref 116), (1, .int a1), (2, .int a2)]) d_M_renames_114 rfl ?_
                refine rz_pure (pc' := 118) d_M_renames_116 rfl ?_
                refine rz_ifne (tgt := 130) d_M_renames_118 rfl (fun b11 => ?_) (fun b11 => ?_)
                · skip
                  refine rz_pure (pc' := 132) d_M_renames_130 rfl ?_
                  refine rz_ifle (tgt := 138) d_M_renames_132 rfl (fun b12 => ?_) (fun b12 => ?_)
                  · skip
                    refine rz_pure (pc' := 139) d_M_renames_138 rfl ?_
                    refine rz_iconst (v := 1) d_M_renames_139 (by decide) ?_
                    refine rz_pure (pc' := 141) d_M_renames_140 rfl ?_
                    refine rz_getr d_M_renames_141 f_12_260 rfl rfl ?_
                    refine rz_pure (pc' := 145) d_M_renames_144 rfl ?_
                    refine rz_iconst (v := 1) d_M_renames_145 (by decide) ?_
                    refine rz_iadd d_M_renames_146 ?_
                    refine rz_pure (pc' := 149) d_M_renames_147 rfl ?_
                    refine rz_callVi (t := [.int ((a1 - a2) - 1), .int (a2 + 1), .ref 151, .int 1]) d_M_renames_149 w_12_325 rfl rfl rfl ((q10.2 b11).1 b12) (fun xq13 Sq13 q13 => ?_)
                    refine rz_pure (pc' := 154) (l' := [(5, .int xq13), (4, .int ((a1 - a2) - 1)), (3, .int (a2 - 2)), (0, .ref 116), (1, .int a1), (2, .int a2)]) d_M_renames_152 rfl ?_
                    refine rz_pure (pc' := 156) d_M_renames_154 rfl ?_
                    refine rz_iconst (v := -1) d_M_renames_156 (by decide) ?_
                    refine rz_icmpne (tgt := 169) d_M_renames_157 rfl (fun b14 => ?_) (fun b14 => ?_)
                    · skip
                      refine rz_pure (pc' := 171) d_M_renames_169 rfl ?_
                      refine rz_ifeq (tgt := 177) d_M_renames_171 rfl (fun b15 => ?_) (fun b15 => ?_)
                      · skip
                        refine rz_pure (pc' := 178) d_M_renames_177 rfl ?_
                        refine rz_pure (pc' := 179) d_M_renames_178 rfl ?_
                        refine rz_getiv (v := Sq13.2 116 27) d_M_renames_179 f_12_211 rfl rfl rfl ?_
                        refine rz_pure (pc' := 183) d_M_renames_182 rfl ?_
                        refine rz_getiv (v := Sq13.2 116 28) d_M_renames_183 f_12_214 rfl rfl rfl ?_
                        refine rz_pure (pc' := 187) d_M_renames_186 rfl ?_
                        refine rz_getr d_M_renames_187 f_12_186 rfl rfl ?_
                        refine rz_iconst (v := 0) d_M_renames_190 (by decide) ?_
                        refine rz_callVi (t := [.int 0, .ref 125, .int (Sq13.2 116 28), .int (Sq13.2 116 27)]) d_M_renames_191 w_12_148 rfl rfl rfl ((q13.2 b14).1 b15) (fun xq16 Sq16 q16 => ?_)
                        refine rz_pure (pc' := 196) (l' := [(5, .int xq16), (4, .int ((a1 - a2) - 1)), (3, .int (a2 - 2)), (0, .ref 116), (1, .int a1), (2, .int a2)]) d_M_renames_194 rfl ?_
                        refine rz_pure (pc' := 198) d_M_renames_196 rfl ?_
                        refine rz_ifeq (tgt := 204) d_M_renames_198 rfl (fun b17 => ?_) (fun b17 => ?_)
                        · skip
                          refine rz_iconst (v := 0) d_M_renames_204 (by decide) ?_
                          refine rz_pure (pc' := 207) (l' := [(6, .int 0), (5, .int xq16), (4, .int ((a1 - a2) - 1)), (3, .int (a2 - 2)), (0, .ref 116), (1, .int a1), (2, .int a2)]) d_M_renames_205 rfl ?_
                          exact rz_pick (ks := [0, 3, 6]) (l := [(0, .ref 116), (3, .int (a2 - 2)), (6, .int 0)]) rfl rfl (by decide) rfl (q16.1 b17)
                        · skip
                          refine rz_pure (pc' := 203) d_M_renames_201 rfl ?_
                          exact rz_ireti d_M_renames_203 rfl rfl (q16.2 b17)
                      · skip
                        refine rz_pure (pc' := 176) d_M_renames_174 rfl ?_
                        exact rz_ireti d_M_renames_176 rfl rfl ((q13.2 b14).2 b15)
                    · skip
                      refine rz_pure (pc' := 161) d_M_renames_160 rfl ?_
                      refine rz_bipush (v := 62) d_M_renames_161 (by decide) ?_
                      refine rz_iconst (v := 0) d_M_renames_163 (by decide) ?_
                      refine rz_iconst (v := 0) d_M_renames_164 (by decide) ?_
                      refine rz_callVi (t := [.int 0, .int 0, .int 62]) d_M_renames_165 w_12_113 rfl rfl rfl (q13.1 b14) (fun xq18 Sq18 q18 => ?_)
                      exact rz_ireti d_M_renames_168 rfl rfl q18
                  · skip
                    refine rz_pure (pc' := 137) d_M_renames_135 rfl ?_
                    exact rz_ireti d_M_renames_137 rfl rfl ((q10.2 b11).2 b12)
                · skip
                  refine rz_pure (pc' := 122) d_M_renames_121 rfl ?_
                  refine rz_bipush (v := 63) d_M_renames_122 (by decide) ?_
                  refine rz_iconst (v := 0) d_M_renames_124 (by decide) ?_
                  refine rz_iconst (v := 0) d_M_renames_125 (by decide) ?_
                  refine rz_callVi (t := [.int 0, .int 0, .int 63]) d_M_renames_126 w_12_113 rfl rfl rfl (q10.1 b11) (fun xq19 Sq19 q19 => ?_)
                  exact rz_ireti d_M_renames_129 rfl rfl q19
              · skip
                exact rz_pick (ks := [0]) (l := [(0, .ref 116)]) rfl rfl (by decide) rfl (q8.2 b9)
          · skip
            exact rz_pick (ks := [0]) (l := [(0, .ref 116)]) rfl rfl (by decide) rfl (((((w.2 b1).2 b2).2 b3).2 b4).2 b5)
theorem p_M_renames_64 {S : rz_S} {K : Int32 → rz_S → Prop} (w : rz_ev mM_fault [.ref 116, .int 30, .int 0, .int 0] S (rz_i (fun xq1 Sq1 => K xq1 Sq1))) : rz mM_renames 64 [(0, .ref 116)] [] S (rz_i K) := by
  refine rz_pure (pc' := 65) d_M_renames_64 rfl ?_
  refine rz_bipush (v := 30) d_M_renames_65 (by decide) ?_
  refine rz_iconst (v := 0) d_M_renames_67 (by decide) ?_
  refine rz_iconst (v := 0) d_M_renames_68 (by decide) ?_
  refine rz_callVi (t := [.int 0, .int 0, .int 30]) d_M_renames_69 w_12_113 rfl rfl rfl w (fun xq1 Sq1 q1 => ?_)
  exact rz_ireti d_M_renames_72 rfl rfl q1
theorem p_M_renames_94 {S : rz_S} {K : Int32 → rz_S → Prop} (w : rz_ev mM_fault [.ref 116, .int 33, .int 0, .int 0] S (rz_i (fun xq1 Sq1 => K xq1 Sq1))) : rz mM_renames 94 [(0, .ref 116)] [] S (rz_i K) := by
  refine rz_pure (pc' := 95) d_M_renames_94 rfl ?_
  refine rz_bipush (v := 33) d_M_renames_95 (by decide) ?_
  refine rz_iconst (v := 0) d_M_renames_97 (by decide) ?_
  refine rz_iconst (v := 0) d_M_renames_98 (by decide) ?_
  refine rz_callVi (t := [.int 0, .int 0, .int 33]) d_M_renames_99 w_12_113 rfl rfl rfl w (fun xq1 Sq1 q1 => ?_)
  exact rz_ireti d_M_renames_102 rfl rfl q1
theorem p_M_renames_207 {S : rz_S} {K : Int32 → rz_S → Prop} {a3 : Int32} {a6 : Int32} (w : ((10 ≤ a6 → rz_ev mM_writeBlock [.ref 116, .int (S.2 116 27), .int (S.2 116 28), .ref 125, .int 0] S (rz_i (fun xq2 Sq2 => K xq2 Sq2))) ∧ (¬ 10 ≤ a6 → ((a3 ≤ a6 → rx_in (((16 * (S.2 116 29)) + 5) + a6) 64 = true ∧ rz mM_renames 207 [(0, .ref 116), (3, .int a3), (6, .int (a6 + 1))] [] (rz_fA S 125 (upd (S.1 125) ((((16 * (S.2 116 29)) + 5) + a6).toNatClampNeg) 160)) (rz_i K)) ∧ (¬ a3 ≤ a6 → rx_in (2 + a6) 401 = true ∧ rx_in (((16 * (S.2 116 29)) + 5) + a6) 64 = true ∧ rz mM_renames 207 [(0, .ref 116), (3, .int a3), (6, .int (a6 + 1))] [] (rz_fA S 125 (upd (S.1 125) ((((16 * (S.2 116 29)) + 5) + a6).toNatClampNeg) (S.1 151 ((2 + a6).toNatClampNeg)))) (rz_i K)))))) : rz mM_renames 207 [(0, .ref 116), (3, .int a3), (6, .int a6)] [] S (rz_i K) := by
  refine rz_pure (pc' := 209) d_M_renames_207 rfl ?_
  refine rz_bipush (v := 10) d_M_renames_209 (by decide) ?_
  refine rz_icmpge (tgt := 258) d_M_renames_211 rfl (fun b1 => ?_) (fun b1 => ?_)
  · skip
    refine rz_pure (pc' := 259) d_M_renames_258 rfl ?_
    refine rz_pure (pc' := 260) d_M_renames_259 rfl ?_
    refine rz_getiv (v := S.2 116 27) d_M_renames_260 f_12_211 rfl rfl rfl ?_
    refine rz_pure (pc' := 264) d_M_renames_263 rfl ?_
    refine rz_getiv (v := S.2 116 28) d_M_renames_264 f_12_214 rfl rfl rfl ?_
    refine rz_pure (pc' := 268) d_M_renames_267 rfl ?_
    refine rz_getr d_M_renames_268 f_12_186 rfl rfl ?_
    refine rz_iconst (v := 0) d_M_renames_271 (by decide) ?_
    refine rz_callVi (t := [.int 0, .ref 125, .int (S.2 116 28), .int (S.2 116 27)]) d_M_renames_272 w_12_152 rfl rfl rfl (w.1 b1) (fun xq2 Sq2 q2 => ?_)
    exact rz_ireti d_M_renames_275 rfl rfl q2
  · skip
    refine rz_pure (pc' := 215) d_M_renames_214 rfl ?_
    refine rz_getr d_M_renames_215 f_12_186 rfl rfl ?_
    refine rz_bipush (v := 16) d_M_renames_218 (by decide) ?_
    refine rz_pure (pc' := 221) d_M_renames_220 rfl ?_
    refine rz_getiv (v := S.2 116 29) d_M_renames_221 f_12_217 rfl rfl rfl ?_
    refine rz_imul d_M_renames_224 ?_
    refine rz_iconst (v := 5) d_M_renames_225 (by decide) ?_
    refine rz_iadd d_M_renames_226 ?_
    refine rz_pure (pc' := 229) d_M_renames_227 rfl ?_
    refine rz_iadd d_M_renames_229 ?_
    refine rz_pure (pc' := 232) d_M_renames_230 rfl ?_
    refine rz_pure (pc' := 233) d_M_renames_232 rfl ?_
    refine rz_icmpge (tgt := 248) d_M_renames_233 rfl (fun b3 => ?_) (fun b3 => ?_)
    · skip
      refine rz_sipush (v := 160) d_M_renames_248 (by decide) ?_
      refine rz_iastv (F := S.1 125) (i := (((16 * (S.2 116 29)) + 5) + a6).toNatClampNeg) d_M_renames_251 rfl ((w.2 b1).1 b3).1 rfl rfl ?_
      refine rz_pure (pc' := 255) (l' := [(6, .int (a6 + 1)), (0, .ref 116), (3, .int a3)]) d_M_renames_252 rfl ?_
      refine rz_pure (pc' := 207) d_M_renames_255 rfl ?_
      exact rz_pick (ks := [0, 3, 6]) (l := [(0, .ref 116), (3, .int a3), (6, .int (a6 + 1))]) rfl rfl (by decide) rfl ((w.2 b1).1 b3).2
    · skip
      refine rz_pure (pc' := 237) d_M_renames_236 rfl ?_
      refine rz_getr d_M_renames_237 f_12_260 rfl rfl ?_
      refine rz_iconst (v := 2) d_M_renames_240 (by decide) ?_
      refine rz_pure (pc' := 243) d_M_renames_241 rfl ?_
      refine rz_iadd d_M_renames_243 ?_
      refine rz_ialdv (F := S.1 151) (i := (2 + a6).toNatClampNeg) d_M_renames_244 rfl ((w.2 b1).2 b3).1 rfl rfl ?_
      refine rz_pure (pc' := 251) d_M_renames_245 rfl ?_
      refine rz_iastv (F := S.1 125) (i := (((16 * (S.2 116 29)) + 5) + a6).toNatClampNeg) d_M_renames_251 rfl ((w.2 b1).2 b3).2.1 rfl rfl ?_
      refine rz_pure (pc' := 255) (l' := [(6, .int (a6 + 1)), (0, .ref 116), (3, .int a3)]) d_M_renames_252 rfl ?_
      refine rz_pure (pc' := 207) d_M_renames_255 rfl ?_
      exact rz_pick (ks := [0, 3, 6]) (l := [(0, .ref 116), (3, .int a3), (6, .int (a6 + 1))]) rfl rfl (by decide) rfl ((w.2 b1).2 b3).2.2
theorem d_M_uses_0 : decode (rm_code mM_uses) 0 = .ok (.iload_n 1, 1) := by decide +kernel
theorem d_M_uses_1 : decode (rm_code mM_uses) 1 = .ok (.iload_n 2, 1) := by decide +kernel
theorem d_M_uses_2 : decode (rm_code mM_uses) 2 = .ok (.invokestatic 161, 3) := by decide +kernel
theorem d_M_uses_5 : decode (rm_code mM_uses) 5 = .ok (.ifCond .eq (12), 3) := by decide +kernel
theorem d_M_uses_8 : decode (rm_code mM_uses) 8 = .ok (.aload_n 0, 1) := by decide +kernel
theorem d_M_uses_9 : decode (rm_code mM_uses) 9 = .ok (.iload_n 1, 1) := by decide +kernel
theorem d_M_uses_10 : decode (rm_code mM_uses) 10 = .ok (.iload_n 2, 1) := by decide +kernel
theorem d_M_uses_11 : decode (rm_code mM_uses) 11 = .ok (.invokevirtual 165, 3) := by decide +kernel
theorem d_M_uses_14 : decode (rm_code mM_uses) 14 = .ok (.ifCond .ne (12), 3) := by decide +kernel
theorem d_M_uses_17 : decode (rm_code mM_uses) 17 = .ok (.aload_n 0, 1) := by decide +kernel
theorem d_M_uses_18 : decode (rm_code mM_uses) 18 = .ok (.bipush (71), 2) := by decide +kernel
theorem d_M_uses_20 : decode (rm_code mM_uses) 20 = .ok (.iload_n 1, 1) := by decide +kernel
theorem d_M_uses_21 : decode (rm_code mM_uses) 21 = .ok (.iload_n 2, 1) := by decide +kernel
theorem d_M_uses_22 : decode (rm_code mM_uses) 22 = .ok (.invokevirtual 113, 3) := by decide +kernel
theorem d_M_uses_25 : decode (rm_code mM_uses) 25 = .ok (.ireturn, 1) := by decide +kernel
theorem d_M_uses_26 : decode (rm_code mM_uses) 26 = .ok (.aload_n 0, 1) := by decide +kernel
theorem d_M_uses_27 : decode (rm_code mM_uses) 27 = .ok (.iload_n 1, 1) := by decide +kernel
theorem d_M_uses_28 : decode (rm_code mM_uses) 28 = .ok (.iload_n 2, 1) := by decide +kernel
theorem d_M_uses_29 : decode (rm_code mM_uses) 29 = .ok (.invokevirtual 174, 3) := by decide +kernel
theorem d_M_uses_32 : decode (rm_code mM_uses) 32 = .ok (.iconst 0, 1) := by decide +kernel
theorem d_M_uses_33 : decode (rm_code mM_uses) 33 = .ok (.ireturn, 1) := by decide +kernel
theorem p_M_uses_0 {S : rz_S} {K : Int32 → rz_S → Prop} {a1 : Int32} {a2 : Int32} (w : rz_ev mM_isLegal [.int a1, .int a2] S (rz_i (fun xq1 Sq1 => ((xq1 = 0 → rz mM_uses 17 [(0, .ref 116), (1, .int a1), (2, .int a2)] [] Sq1 (rz_i K)) ∧ (¬ xq1 = 0 → rz_ev mM_isFree [.ref 116, .int a1, .int a2] Sq1 (rz_i (fun xq3 Sq3 => ((xq3 = 0 → rz mM_uses 17 [(0, .ref 116), (1, .int a1), (2, .int a2)] [] Sq3 (rz_i K)) ∧ (¬ xq3 = 0 → rz_ev mM_takes [.ref 116, .int a1, .int a2] Sq3 (rz_v (fun Sq5 => K 0 Sq5))))))))))) : rz mM_uses 0 [(0, .ref 116), (1, .int a1), (2, .int a2)] [] S (rz_i K) := by
  refine rz_pure (pc' := 1) d_M_uses_0 rfl ?_
  refine rz_pure (pc' := 2) d_M_uses_1 rfl ?_
  refine rz_callSi (t := [.int a2, .int a1]) d_M_uses_2 rfl w_12_161 rfl rfl w (fun xq1 Sq1 q1 => ?_)
  refine rz_ifeq (tgt := 17) d_M_uses_5 rfl (fun b2 => ?_) (fun b2 => ?_)
  · skip
    exact rz_pick (ks := [0, 1, 2]) (l := [(0, .ref 116), (1, .int a1), (2, .int a2)]) rfl rfl (by decide) rfl (q1.1 b2)
  · skip
    refine rz_pure (pc' := 9) d_M_uses_8 rfl ?_
    refine rz_pure (pc' := 10) d_M_uses_9 rfl ?_
    refine rz_pure (pc' := 11) d_M_uses_10 rfl ?_
    refine rz_callVi (t := [.int a2, .int a1]) d_M_uses_11 w_12_165 rfl rfl rfl (q1.2 b2) (fun xq3 Sq3 q3 => ?_)
    refine rz_ifne (tgt := 26) d_M_uses_14 rfl (fun b4 => ?_) (fun b4 => ?_)
    · skip
      refine rz_pure (pc' := 27) d_M_uses_26 rfl ?_
      refine rz_pure (pc' := 28) d_M_uses_27 rfl ?_
      refine rz_pure (pc' := 29) d_M_uses_28 rfl ?_
      refine rz_callVv (t := [.int a2, .int a1]) d_M_uses_29 w_12_174 rfl rfl rfl (q3.2 b4) (fun Sq5 q5 => ?_)
      refine rz_iconst (v := 0) d_M_uses_32 (by decide) ?_
      exact rz_ireti d_M_uses_33 rfl rfl q5
    · skip
      exact rz_pick (ks := [0, 1, 2]) (l := [(0, .ref 116), (1, .int a1), (2, .int a2)]) rfl rfl (by decide) rfl (q3.1 b4)
theorem p_M_uses_17 {S : rz_S} {K : Int32 → rz_S → Prop} {a1 : Int32} {a2 : Int32} (w : rz_ev mM_fault [.ref 116, .int 71, .int a1, .int a2] S (rz_i (fun xq1 Sq1 => K xq1 Sq1))) : rz mM_uses 17 [(0, .ref 116), (1, .int a1), (2, .int a2)] [] S (rz_i K) := by
  refine rz_pure (pc' := 18) d_M_uses_17 rfl ?_
  refine rz_bipush (v := 71) d_M_uses_18 (by decide) ?_
  refine rz_pure (pc' := 21) d_M_uses_20 rfl ?_
  refine rz_pure (pc' := 22) d_M_uses_21 rfl ?_
  refine rz_callVi (t := [.int a2, .int a1, .int 71]) d_M_uses_22 w_12_113 rfl rfl rfl w (fun xq1 Sq1 q1 => ?_)
  exact rz_ireti d_M_uses_25 rfl rfl q1
