/-! what each block of the code asks (printed by wpgen.py) -/
theorem d_M_read_0 : decode (rm_code mM_read) 0 = .ok (.iload_n 1, 1) := by decide +kernel
theorem d_M_read_1 : decode (rm_code mM_read) 1 = .ok (.ifCond .lt (21), 3) := by decide +kernel
theorem d_M_read_4 : decode (rm_code mM_read) 4 = .ok (.iload_n 1, 1) := by decide +kernel
theorem d_M_read_5 : decode (rm_code mM_read) 5 = .ok (.bipush (15), 2) := by decide +kernel
theorem d_M_read_7 : decode (rm_code mM_read) 7 = .ok (.if_icmp .gt (15), 3) := by decide +kernel
theorem d_M_read_10 : decode (rm_code mM_read) 10 = .ok (.iload_n 2, 1) := by decide +kernel
theorem d_M_read_11 : decode (rm_code mM_read) 11 = .ok (.iconst 1, 1) := by decide +kernel
theorem d_M_read_12 : decode (rm_code mM_read) 12 = .ok (.if_icmp .lt (10), 3) := by decide +kernel
theorem d_M_read_15 : decode (rm_code mM_read) 15 = .ok (.iload_n 2, 1) := by decide +kernel
theorem d_M_read_16 : decode (rm_code mM_read) 16 = .ok (.sipush (300), 3) := by decide +kernel
theorem d_M_read_19 : decode (rm_code mM_read) 19 = .ok (.if_icmp .le (5), 3) := by decide +kernel
theorem d_M_read_22 : decode (rm_code mM_read) 22 = .ok (.iconst (-1), 1) := by decide +kernel
theorem d_M_read_23 : decode (rm_code mM_read) 23 = .ok (.ireturn, 1) := by decide +kernel
theorem d_M_read_24 : decode (rm_code mM_read) 24 = .ok (.aload_n 0, 1) := by decide +kernel
theorem d_M_read_25 : decode (rm_code mM_read) 25 = .ok (.iconst 0, 1) := by decide +kernel
theorem d_M_read_26 : decode (rm_code mM_read) 26 = .ok (.putfield 371, 3) := by decide +kernel
theorem d_M_read_29 : decode (rm_code mM_read) 29 = .ok (.aload_n 0, 1) := by decide +kernel
theorem d_M_read_30 : decode (rm_code mM_read) 30 = .ok (.iconst 0, 1) := by decide +kernel
theorem d_M_read_31 : decode (rm_code mM_read) 31 = .ok (.putfield 374, 3) := by decide +kernel
theorem d_M_read_34 : decode (rm_code mM_read) 34 = .ok (.iload_n 1, 1) := by decide +kernel
theorem d_M_read_35 : decode (rm_code mM_read) 35 = .ok (.bipush (15), 2) := by decide +kernel
theorem d_M_read_37 : decode (rm_code mM_read) 37 = .ok (.if_icmp .ne (28), 3) := by decide +kernel
theorem d_M_read_40 : decode (rm_code mM_read) 40 = .ok (.aload_n 0, 1) := by decide +kernel
theorem d_M_read_41 : decode (rm_code mM_read) 41 = .ok (.getfield 242, 3) := by decide +kernel
theorem d_M_read_44 : decode (rm_code mM_read) 44 = .ok (.ifCond .le (11), 3) := by decide +kernel
theorem d_M_read_47 : decode (rm_code mM_read) 47 = .ok (.aload_n 0, 1) := by decide +kernel
theorem d_M_read_48 : decode (rm_code mM_read) 48 = .ok (.iload_n 2, 1) := by decide +kernel
theorem d_M_read_49 : decode (rm_code mM_read) 49 = .ok (.invokevirtual 377, 3) := by decide +kernel
theorem d_M_read_52 : decode (rm_code mM_read) 52 = .ok (.goto (8), 3) := by decide +kernel
theorem d_M_read_55 : decode (rm_code mM_read) 55 = .ok (.aload_n 0, 1) := by decide +kernel
theorem d_M_read_56 : decode (rm_code mM_read) 56 = .ok (.iload_n 2, 1) := by decide +kernel
theorem d_M_read_57 : decode (rm_code mM_read) 57 = .ok (.invokevirtual 380, 3) := by decide +kernel
theorem d_M_read_60 : decode (rm_code mM_read) 60 = .ok (.aload_n 0, 1) := by decide +kernel
theorem d_M_read_61 : decode (rm_code mM_read) 61 = .ok (.getfield 371, 3) := by decide +kernel
theorem d_M_read_64 : decode (rm_code mM_read) 64 = .ok (.ireturn, 1) := by decide +kernel
theorem d_M_read_65 : decode (rm_code mM_read) 65 = .ok (.aload_n 0, 1) := by decide +kernel
theorem d_M_read_66 : decode (rm_code mM_read) 66 = .ok (.invokevirtual 269, 3) := by decide +kernel
theorem d_M_read_69 : decode (rm_code mM_read) 69 = .ok (.aload_n 0, 1) := by decide +kernel
theorem d_M_read_70 : decode (rm_code mM_read) 70 = .ok (.getfield 248, 3) := by decide +kernel
theorem d_M_read_73 : decode (rm_code mM_read) 73 = .ok (.iload_n 1, 1) := by decide +kernel
theorem d_M_read_74 : decode (rm_code mM_read) 74 = .ok (.iaload, 1) := by decide +kernel
theorem d_M_read_75 : decode (rm_code mM_read) 75 = .ok (.tableswitch (59) (1) (4) #[(29), (59), (39), (49)], 29) := by decide +kernel
theorem d_M_read_104 : decode (rm_code mM_read) 104 = .ok (.aload_n 0, 1) := by decide +kernel
theorem d_M_read_105 : decode (rm_code mM_read) 105 = .ok (.iload_n 1, 1) := by decide +kernel
theorem d_M_read_106 : decode (rm_code mM_read) 106 = .ok (.iload_n 2, 1) := by decide +kernel
theorem d_M_read_107 : decode (rm_code mM_read) 107 = .ok (.invokevirtual 383, 3) := by decide +kernel
theorem d_M_read_110 : decode (rm_code mM_read) 110 = .ok (.istore_n 3, 1) := by decide +kernel
theorem d_M_read_111 : decode (rm_code mM_read) 111 = .ok (.goto (32), 3) := by decide +kernel
theorem d_M_read_114 : decode (rm_code mM_read) 114 = .ok (.aload_n 0, 1) := by decide +kernel
theorem d_M_read_115 : decode (rm_code mM_read) 115 = .ok (.iload_n 1, 1) := by decide +kernel
theorem d_M_read_116 : decode (rm_code mM_read) 116 = .ok (.iload_n 2, 1) := by decide +kernel
theorem d_M_read_117 : decode (rm_code mM_read) 117 = .ok (.invokevirtual 386, 3) := by decide +kernel
theorem d_M_read_120 : decode (rm_code mM_read) 120 = .ok (.istore_n 3, 1) := by decide +kernel
theorem d_M_read_121 : decode (rm_code mM_read) 121 = .ok (.goto (22), 3) := by decide +kernel
theorem d_M_read_124 : decode (rm_code mM_read) 124 = .ok (.aload_n 0, 1) := by decide +kernel
theorem d_M_read_125 : decode (rm_code mM_read) 125 = .ok (.iload_n 1, 1) := by decide +kernel
theorem d_M_read_126 : decode (rm_code mM_read) 126 = .ok (.iload_n 2, 1) := by decide +kernel
theorem d_M_read_127 : decode (rm_code mM_read) 127 = .ok (.invokevirtual 389, 3) := by decide +kernel
theorem d_M_read_130 : decode (rm_code mM_read) 130 = .ok (.istore_n 3, 1) := by decide +kernel
theorem d_M_read_131 : decode (rm_code mM_read) 131 = .ok (.goto (12), 3) := by decide +kernel
theorem d_M_read_134 : decode (rm_code mM_read) 134 = .ok (.aload_n 0, 1) := by decide +kernel
theorem d_M_read_135 : decode (rm_code mM_read) 135 = .ok (.bipush (61), 2) := by decide +kernel
theorem d_M_read_137 : decode (rm_code mM_read) 137 = .ok (.iconst 0, 1) := by decide +kernel
theorem d_M_read_138 : decode (rm_code mM_read) 138 = .ok (.iconst 0, 1) := by decide +kernel
theorem d_M_read_139 : decode (rm_code mM_read) 139 = .ok (.invokevirtual 113, 3) := by decide +kernel
theorem d_M_read_142 : decode (rm_code mM_read) 142 = .ok (.istore_n 3, 1) := by decide +kernel
theorem d_M_read_143 : decode (rm_code mM_read) 143 = .ok (.aload_n 0, 1) := by decide +kernel
theorem d_M_read_144 : decode (rm_code mM_read) 144 = .ok (.iload_n 3, 1) := by decide +kernel
theorem d_M_read_145 : decode (rm_code mM_read) 145 = .ok (.invokevirtual 272, 3) := by decide +kernel
theorem d_M_read_148 : decode (rm_code mM_read) 148 = .ok (.pop, 1) := by decide +kernel
theorem d_M_read_149 : decode (rm_code mM_read) 149 = .ok (.aload_n 0, 1) := by decide +kernel
theorem d_M_read_150 : decode (rm_code mM_read) 150 = .ok (.getfield 371, 3) := by decide +kernel
theorem d_M_read_153 : decode (rm_code mM_read) 153 = .ok (.ireturn, 1) := by decide +kernel
theorem p_M_read_0 {S : rz_S} {K : Int32 → rz_S → Prop} {a1 : Int32} {a2 : Int32} (w : ((a1 < 0 → K (-1) S) ∧ (¬ a1 < 0 → ((15 < a1 → K (-1) S) ∧ (¬ 15 < a1 → ((a2 < 1 → K (-1) S) ∧ (¬ a2 < 1 → ((a2 ≤ 300 → ((a1 = 15 → ((S.2 116 61 ≤ 0 → rz_ev mM_givesStatus [.ref 116, .int a2] (rz_uI (rz_uI S 116 67 0) 116 68 0) (rz_v (fun Sq13 => K (Sq13.2 116 67) Sq13))) ∧ (¬ S.2 116 61 ≤ 0 → rz_ev mM_givesMore [.ref 116, .int a2] (rz_uI (rz_uI S 116 67 0) 116 68 0) (rz_v (fun Sq14 => K (Sq14.2 116 67) Sq14))))) ∧ (¬ a1 = 15 → rz_ev mM_begins [.ref 116] (rz_uI (rz_uI S 116 67 0) 116 68 0) (rz_v (fun Sq6 => rx_in a1 15 = true ∧ (((Sq6.1 126 a1.toNatClampNeg).toInt < 1 ∨ 4 < (Sq6.1 126 a1.toNatClampNeg).toInt → rz_ev mM_fault [.ref 116, .int 61, .int 0, .int 0] Sq6 (rz_i (fun xq7 Sq7 => rz mM_read 143 [(0, .ref 116), (3, .int xq7)] [] Sq7 (rz_i K)))) ∧ ((Sq6.1 126 a1.toNatClampNeg) = 1 → rz_ev mM_readsFile [.ref 116, .int a1, .int a2] Sq6 (rz_i (fun xq8 Sq8 => rz mM_read 143 [(0, .ref 116), (3, .int xq8)] [] Sq8 (rz_i K)))) ∧ ((Sq6.1 126 a1.toNatClampNeg) = 2 → rz_ev mM_fault [.ref 116, .int 61, .int 0, .int 0] Sq6 (rz_i (fun xq9 Sq9 => rz mM_read 143 [(0, .ref 116), (3, .int xq9)] [] Sq9 (rz_i K)))) ∧ ((Sq6.1 126 a1.toNatClampNeg) = 3 → rz_ev mM_readsList [.ref 116, .int a1, .int a2] Sq6 (rz_i (fun xq10 Sq10 => rz mM_read 143 [(0, .ref 116), (3, .int xq10)] [] Sq10 (rz_i K)))) ∧ ((Sq6.1 126 a1.toNatClampNeg) = 4 → rz_ev mM_readsBuffer [.ref 116, .int a1, .int a2] Sq6 (rz_i (fun xq11 Sq11 => rz mM_read 143 [(0, .ref 116), (3, .int xq11)] [] Sq11 (rz_i K)))))))))) ∧ (¬ a2 ≤ 300 → K (-1) S))))))))) : rz mM_read 0 [(0, .ref 116), (1, .int a1), (2, .int a2)] [] S (rz_i K) := by
  refine rz_pure (pc' := 1) d_M_read_0 rfl ?_
  refine rz_iflt (tgt := 22) d_M_read_1 rfl (fun b1 => ?_) (fun b1 => ?_)
  · skip
    refine rz_iconst (v := -1) d_M_read_22 (by decide) ?_
    exact rz_ireti d_M_read_23 rfl rfl (w.1 b1)
  · skip
    refine rz_pure (pc' := 5) d_M_read_4 rfl ?_
    refine rz_bipush (v := 15) d_M_read_5 (by decide) ?_
    refine rz_icmpgt (tgt := 22) d_M_read_7 rfl (fun b2 => ?_) (fun b2 => ?_)
    · skip
      refine rz_iconst (v := -1) d_M_read_22 (by decide) ?_
      exact rz_ireti d_M_read_23 rfl rfl ((w.2 b1).1 b2)
    · skip
      refine rz_pure (pc' := 11) d_M_read_10 rfl ?_
      refine rz_iconst (v := 1) d_M_read_11 (by decide) ?_
      refine rz_icmplt (tgt := 22) d_M_read_12 rfl (fun b3 => ?_) (fun b3 => ?_)
      · skip
        refine rz_iconst (v := -1) d_M_read_22 (by decide) ?_
        exact rz_ireti d_M_read_23 rfl rfl (((w.2 b1).2 b2).1 b3)
      · skip
        refine rz_pure (pc' := 16) d_M_read_15 rfl ?_
        refine rz_sipush (v := 300) d_M_read_16 (by decide) ?_
        refine rz_icmple (tgt := 24) d_M_read_19 rfl (fun b4 => ?_) (fun b4 => ?_)
        · skip
          refine rz_pure (pc' := 25) d_M_read_24 rfl ?_
          refine rz_iconst (v := 0) d_M_read_25 (by decide) ?_
          refine rz_puti d_M_read_26 f_12_371 rfl rfl rfl ?_
          refine rz_pure (pc' := 30) d_M_read_29 rfl ?_
          refine rz_iconst (v := 0) d_M_read_30 (by decide) ?_
          refine rz_puti d_M_read_31 f_12_374 rfl rfl rfl ?_
          refine rz_pure (pc' := 35) d_M_read_34 rfl ?_
          refine rz_bipush (v := 15) d_M_read_35 (by decide) ?_
          refine rz_icmpne (tgt := 65) d_M_read_37 rfl (fun b5 => ?_) (fun b5 => ?_)
          · skip
            refine rz_pure (pc' := 66) d_M_read_65 rfl ?_
            refine rz_callVv (t := []) d_M_read_66 w_12_269 rfl rfl rfl (((((w.2 b1).2 b2).2 b3).1 b4).2 b5) (fun Sq6 q6 => ?_)
            refine rz_pure (pc' := 70) d_M_read_69 rfl ?_
            refine rz_getr d_M_read_70 f_12_248 rfl rfl ?_
            refine rz_pure (pc' := 74) d_M_read_73 rfl ?_
            refine rz_ialdv (F := Sq6.1 126) (i := a1.toNatClampNeg) d_M_read_74 rfl q6.1 rfl rfl ?_
            refine rz_tsw (n := 4) (lo := 1) (tgt := 134) d_M_read_75 rfl rfl (fun b0 => ?_) (fun j hj hx => ?_)
            · skip
              refine rz_pure (pc' := 135) d_M_read_134 rfl ?_
              refine rz_bipush (v := 61) d_M_read_135 (by decide) ?_
              refine rz_iconst (v := 0) d_M_read_137 (by decide) ?_
              refine rz_iconst (v := 0) d_M_read_138 (by decide) ?_
              refine rz_callVi (t := [.int 0, .int 0, .int 61]) d_M_read_139 w_12_113 rfl rfl rfl (q6.2.1 b0) (fun xq7 Sq7 q7 => ?_)
              refine rz_pure (pc' := 143) (l' := [(3, .int xq7), (0, .ref 116), (1, .int a1), (2, .int a2)]) d_M_read_142 rfl ?_
              exact rz_pick (ks := [0, 3]) (l := [(0, .ref 116), (3, .int xq7)]) rfl rfl (by decide) rfl q7
            · match j, hj with
              | 0, _ =>
                replace hx := hx.trans (show Int32.ofInt ((1 : Int) + ((0 : Nat) : Int)) = 1 from by decide)
                refine rz_tsj (tgt := 104) d_M_read_75 hx rfl ?_
                refine rz_pure (pc' := 105) d_M_read_104 rfl ?_
                refine rz_pure (pc' := 106) d_M_read_105 rfl ?_
                refine rz_pure (pc' := 107) d_M_read_106 rfl ?_
                refine rz_callVi (t := [.int a2, .int a1]) d_M_read_107 w_12_383 rfl rfl rfl (q6.2.2.1 hx) (fun xq8 Sq8 q8 => ?_)
                refine rz_pure (pc' := 111) (l' := [(3, .int xq8), (0, .ref 116), (1, .int a1), (2, .int a2)]) d_M_read_110 rfl ?_
                refine rz_pure (pc' := 143) d_M_read_111 rfl ?_
                exact rz_pick (ks := [0, 3]) (l := [(0, .ref 116), (3, .int xq8)]) rfl rfl (by decide) rfl q8
              | 1, _ =>
                replace hx := hx.trans (show Int32.ofInt ((1 : Int) + ((1 : Nat) : Int)) = 2 from by decide)
                refine rz_tsj (tgt := 134) d_M_read_75 hx rfl ?_
                refine rz_pure (pc' := 135) d_M_read_134 rfl ?_
                refine rz_bipush (v := 61) d_M_read_135 (by decide) ?_
                refine rz_iconst (v := 0) d_M_read_137 (by decide) ?_
                refine rz_iconst (v := 0) d_M_read_138 (by decide) ?_
                refine rz_callVi (t := [.int 0, .int 0, .int 61]) d_M_read_139 w_12_113 rfl rfl rfl (q6.2.2.2.1 hx) (fun xq9 Sq9 q9 => ?_)
                refine rz_pure (pc' := 143) (l' := [(3, .int xq9), (0, .ref 116), (1, .int a1), (2, .int a2)]) d_M_read_142 rfl ?_
                exact rz_pick (ks := [0, 3]) (l := [(0, .ref 116), (3, .int xq9)]) rfl rfl (by decide) rfl q9
              | 2, _ =>
                replace hx := hx.trans (show Int32.ofInt ((1 : Int) + ((2 : Nat) : Int)) = 3 from by decide)
                refine rz_tsj (tgt := 114) d_M_read_75 hx rfl ?_
                refine rz_pure (pc' := 115) d_M_read_114 rfl ?_
                refine rz_pure (pc' := 116) d_M_read_115 rfl ?_
                refine rz_pure (pc' := 117) d_M_read_116 rfl ?_
                refine rz_callVi (t := [.int a2, .int a1]) d_M_read_117 w_12_386 rfl rfl rfl (q6.2.2.2.2.1 hx) (fun xq10 Sq10 q10 => ?_)
                refine rz_pure (pc' := 121) (l' := [(3, .int xq10), (0, .ref 116), (1, .int a1), (2, .int a2)]) d_M_read_120 rfl ?_
                refine rz_pure (pc' := 143) d_M_read_121 rfl ?_
                exact rz_pick (ks := [0, 3]) (l := [(0, .ref 116), (3, .int xq10)]) rfl rfl (by decide) rfl q10
              | 3, _ =>
                replace hx := hx.trans (show Int32.ofInt ((1 : Int) + ((3 : Nat) : Int)) = 4 from by decide)
                refine rz_tsj (tgt := 124) d_M_read_75 hx rfl ?_
                refine rz_pure (pc' := 125) d_M_read_124 rfl ?_
                refine rz_pure (pc' := 126) d_M_read_125 rfl ?_
                refine rz_pure (pc' := 127) d_M_read_126 rfl ?_
                refine rz_callVi (t := [.int a2, .int a1]) d_M_read_127 w_12_389 rfl rfl rfl (q6.2.2.2.2.2 hx) (fun xq11 Sq11 q11 => ?_)
                refine rz_pure (pc' := 131) (l' := [(3, .int xq11), (0, .ref 116), (1, .int a1), (2, .int a2)]) d_M_read_130 rfl ?_
                refine rz_pure (pc' := 143) d_M_read_131 rfl ?_
                exact rz_pick (ks := [0, 3]) (l := [(0, .ref 116), (3, .int xq11)]) rfl rfl (by decide) rfl q11
              | j + 4, h => exact absurd h (by omega)
          · skip
            refine rz_pure (pc' := 41) d_M_read_40 rfl ?_
            refine rz_getiv (v := S.2 116 61) d_M_read_41 f_12_242 rfl rfl ((rz_uI_n (fun h => absurd h.2 (by decide))).trans ((rz_uI_n (fun h => absurd h.2 (by decide))).trans rfl)) ?_
            refine rz_ifle (tgt := 55) d_M_read_44 rfl (fun b12 => ?_) (fun b12 => ?_)
            · skip
              refine rz_pure (pc' := 56) d_M_read_55 rfl ?_
              refine rz_pure (pc' := 57) d_M_read_56 rfl ?_
              refine rz_callVv (t := [.int a2]) d_M_read_57 w_12_380 rfl rfl rfl ((((((w.2 b1).2 b2).2 b3).1 b4).1 b5).1 b12) (fun Sq13 q13 => ?_)
              refine rz_pure (pc' := 61) d_M_read_60 rfl ?_
              refine rz_getiv (v := Sq13.2 116 67) d_M_read_61 f_12_371 rfl rfl rfl ?_
              exact rz_ireti d_M_read_64 rfl rfl q13
            · skip
              refine rz_pure (pc' := 48) d_M_read_47 rfl ?_
              refine rz_pure (pc' := 49) d_M_read_48 rfl ?_
              refine rz_callVv (t := [.int a2]) d_M_read_49 w_12_377 rfl rfl rfl ((((((w.2 b1).2 b2).2 b3).1 b4).1 b5).2 b12) (fun Sq14 q14 => ?_)
              refine rz_pure (pc' := 60) d_M_read_52 rfl ?_
              refine rz_pure (pc' := 61) d_M_read_60 rfl ?_
              refine rz_getiv (v := Sq14.2 116 67) d_M_read_61 f_12_371 rfl rfl rfl ?_
              exact rz_ireti d_M_read_64 rfl rfl q14
        · skip
          refine rz_iconst (v := -1) d_M_read_22 (by decide) ?_
          exact rz_ireti d_M_read_23 rfl rfl ((((w.2 b1).2 b2).2 b3).2 b4)
theorem p_M_read_143 {S : rz_S} {K : Int32 → rz_S → Prop} {a3 : Int32} (w : rz_ev mM_ends [.ref 116, .int a3] S (rz_i (fun xq1 Sq1 => K (Sq1.2 116 67) Sq1))) : rz mM_read 143 [(0, .ref 116), (3, .int a3)] [] S (rz_i K) := by
  refine rz_pure (pc' := 144) d_M_read_143 rfl ?_
  refine rz_pure (pc' := 145) d_M_read_144 rfl ?_
  refine rz_callVi (t := [.int a3]) d_M_read_145 w_12_272 rfl rfl rfl w (fun xq1 Sq1 q1 => ?_)
  refine rz_pure (pc' := 149) d_M_read_148 rfl ?_
  refine rz_pure (pc' := 150) d_M_read_149 rfl ?_
  refine rz_getiv (v := Sq1.2 116 67) d_M_read_150 f_12_371 rfl rfl rfl ?_
  exact rz_ireti d_M_read_153 rfl rfl q1
theorem d_M_givesMore_0 : decode (rm_code mM_givesMore) 0 = .ok (.aload_n 0, 1) := by decide +kernel
theorem d_M_givesMore_1 : decode (rm_code mM_givesMore) 1 = .ok (.getfield 371, 3) := by decide +kernel
theorem d_M_givesMore_4 : decode (rm_code mM_givesMore) 4 = .ok (.iload_n 1, 1) := by decide +kernel
theorem d_M_givesMore_5 : decode (rm_code mM_givesMore) 5 = .ok (.if_icmp .ge (40), 3) := by decide +kernel
theorem d_M_givesMore_8 : decode (rm_code mM_givesMore) 8 = .ok (.aload_n 0, 1) := by decide +kernel
theorem d_M_givesMore_9 : decode (rm_code mM_givesMore) 9 = .ok (.getfield 245, 3) := by decide +kernel
theorem d_M_givesMore_12 : decode (rm_code mM_givesMore) 12 = .ok (.aload_n 0, 1) := by decide +kernel
theorem d_M_givesMore_13 : decode (rm_code mM_givesMore) 13 = .ok (.getfield 242, 3) := by decide +kernel
theorem d_M_givesMore_16 : decode (rm_code mM_givesMore) 16 = .ok (.if_icmp .ge (29), 3) := by decide +kernel
theorem d_M_givesMore_19 : decode (rm_code mM_givesMore) 19 = .ok (.aload_n 0, 1) := by decide +kernel
theorem d_M_givesMore_20 : decode (rm_code mM_givesMore) 20 = .ok (.aload_n 0, 1) := by decide +kernel
theorem d_M_givesMore_21 : decode (rm_code mM_givesMore) 21 = .ok (.getfield 392, 3) := by decide +kernel
theorem d_M_givesMore_24 : decode (rm_code mM_givesMore) 24 = .ok (.aload_n 0, 1) := by decide +kernel
theorem d_M_givesMore_25 : decode (rm_code mM_givesMore) 25 = .ok (.getfield 245, 3) := by decide +kernel
theorem d_M_givesMore_28 : decode (rm_code mM_givesMore) 28 = .ok (.iaload, 1) := by decide +kernel
theorem d_M_givesMore_29 : decode (rm_code mM_givesMore) 29 = .ok (.invokevirtual 395, 3) := by decide +kernel
theorem d_M_givesMore_32 : decode (rm_code mM_givesMore) 32 = .ok (.aload_n 0, 1) := by decide +kernel
theorem d_M_givesMore_33 : decode (rm_code mM_givesMore) 33 = .ok (.aload_n 0, 1) := by decide +kernel
theorem d_M_givesMore_34 : decode (rm_code mM_givesMore) 34 = .ok (.getfield 245, 3) := by decide +kernel
theorem d_M_givesMore_37 : decode (rm_code mM_givesMore) 37 = .ok (.iconst 1, 1) := by decide +kernel
theorem d_M_givesMore_38 : decode (rm_code mM_givesMore) 38 = .ok (.iadd, 1) := by decide +kernel
theorem d_M_givesMore_39 : decode (rm_code mM_givesMore) 39 = .ok (.putfield 245, 3) := by decide +kernel
theorem d_M_givesMore_42 : decode (rm_code mM_givesMore) 42 = .ok (.goto (-42), 3) := by decide +kernel
theorem d_M_givesMore_45 : decode (rm_code mM_givesMore) 45 = .ok (.aload_n 0, 1) := by decide +kernel
theorem d_M_givesMore_46 : decode (rm_code mM_givesMore) 46 = .ok (.getfield 245, 3) := by decide +kernel
theorem d_M_givesMore_49 : decode (rm_code mM_givesMore) 49 = .ok (.aload_n 0, 1) := by decide +kernel
theorem d_M_givesMore_50 : decode (rm_code mM_givesMore) 50 = .ok (.getfield 242, 3) := by decide +kernel
theorem d_M_givesMore_53 : decode (rm_code mM_givesMore) 53 = .ok (.if_icmp .ne (18), 3) := by decide +kernel
theorem d_M_givesMore_56 : decode (rm_code mM_givesMore) 56 = .ok (.aload_n 0, 1) := by decide +kernel
theorem d_M_givesMore_57 : decode (rm_code mM_givesMore) 57 = .ok (.iconst 1, 1) := by decide +kernel
theorem d_M_givesMore_58 : decode (rm_code mM_givesMore) 58 = .ok (.putfield 374, 3) := by decide +kernel
theorem d_M_givesMore_61 : decode (rm_code mM_givesMore) 61 = .ok (.aload_n 0, 1) := by decide +kernel
theorem d_M_givesMore_62 : decode (rm_code mM_givesMore) 62 = .ok (.iconst 0, 1) := by decide +kernel
theorem d_M_givesMore_63 : decode (rm_code mM_givesMore) 63 = .ok (.putfield 242, 3) := by decide +kernel
theorem d_M_givesMore_66 : decode (rm_code mM_givesMore) 66 = .ok (.aload_n 0, 1) := by decide +kernel
theorem d_M_givesMore_67 : decode (rm_code mM_givesMore) 67 = .ok (.iconst 0, 1) := by decide +kernel
theorem d_M_givesMore_68 : decode (rm_code mM_givesMore) 68 = .ok (.putfield 245, 3) := by decide +kernel
theorem d_M_givesMore_71 : decode (rm_code mM_givesMore) 71 = .ok (.return_, 1) := by decide +kernel
theorem p_M_givesMore_0 {S : rz_S} {K : rz_S → Prop} {a1 : Int32} (w : ((a1 ≤ S.2 116 67 → rz mM_givesMore 45 [(0, .ref 116)] [] S (rz_v K)) ∧ (¬ a1 ≤ S.2 116 67 → ((S.2 116 61 ≤ S.2 116 62 → rz mM_givesMore 45 [(0, .ref 116)] [] S (rz_v K)) ∧ (¬ S.2 116 61 ≤ S.2 116 62 → rx_in (S.2 116 62) 32 = true ∧ rz_ev mM_gives [.ref 116, .int (S.1 149 ((S.2 116 62).toNatClampNeg))] S (rz_v (fun Sq3 => rz mM_givesMore 0 [(0, .ref 116), (1, .int a1)] [] (rz_uI Sq3 116 62 ((Sq3.2 116 62) + 1)) (rz_v K)))))))) : rz mM_givesMore 0 [(0, .ref 116), (1, .int a1)] [] S (rz_v K) := by
  refine rz_pure (pc' := 1) d_M_givesMore_0 rfl ?_
  refine rz_getiv (v := S.2 116 67) d_M_givesMore_1 f_12_371 rfl rfl rfl ?_
  refine rz_pure (pc' := 5) d_M_givesMore_4 rfl ?_
  refine rz_icmpge (tgt := 45) d_M_givesMore_5 rfl (fun b1 => ?_) (fun b1 => ?_)
  · skip
    exact rz_pick (ks := [0]) (l := [(0, .ref 116)]) rfl rfl (by decide) rfl (w.1 b1)
  · skip
    refine rz_pure (pc' := 9) d_M_givesMore_8 rfl ?_
    refine rz_getiv (v := S.2 116 62) d_M_givesMore_9 f_12_245 rfl rfl rfl ?_
    refine rz_pure (pc' := 13) d_M_givesMore_12 rfl ?_
    refine rz_getiv (v := S.2 116 61) d_M_givesMore_13 f_12_242 rfl rfl rfl ?_
    refine rz_icmpge (tgt := 45) d_M_givesMore_16 rfl (fun b2 => ?_) (fun b2 => ?_)
    · skip
      exact rz_pick (ks := [0]) (l := [(0, .ref 116)]) rfl rfl (by decide) rfl ((w.2 b1).1 b2)
    · skip
      refine rz_pure (pc' := 20) d_M_givesMore_19 rfl ?_
      refine rz_pure (pc' := 21) d_M_givesMore_20 rfl ?_
      refine rz_getr d_M_givesMore_21 f_12_392 rfl rfl ?_
      refine rz_pure (pc' := 25) d_M_givesMore_24 rfl ?_
      refine rz_getiv (v := S.2 116 62) d_M_givesMore_25 f_12_245 rfl rfl rfl ?_
      refine rz_ialdv (F := S.1 149) (i := (S.2 116 62).toNatClampNeg) d_M_givesMore_28 rfl ((w.2 b1).2 b2).1 rfl rfl ?_
      refine rz_callVv (t := [.int (S.1 149 ((S.2 116 62).toNatClampNeg))]) d_M_givesMore_29 w_12_395 rfl rfl rfl ((w.2 b1).2 b2).2 (fun Sq3 q3 => ?_)
      refine rz_pure (pc' := 33) d_M_givesMore_32 rfl ?_
      refine rz_pure (pc' := 34) d_M_givesMore_33 rfl ?_
      refine rz_getiv (v := Sq3.2 116 62) d_M_givesMore_34 f_12_245 rfl rfl rfl ?_
      refine rz_iconst (v := 1) d_M_givesMore_37 (by decide) ?_
      refine rz_iadd d_M_givesMore_38 ?_
      refine rz_puti d_M_givesMore_39 f_12_245 rfl rfl rfl ?_
      refine rz_pure (pc' := 0) d_M_givesMore_42 rfl ?_
      exact rz_pick (ks := [0, 1]) (l := [(0, .ref 116), (1, .int a1)]) rfl rfl (by decide) rfl q3
theorem p_M_givesMore_45 {S : rz_S} {K : rz_S → Prop} (w : ((S.2 116 62 = S.2 116 61 → K (rz_uI (rz_uI (rz_uI S 116 68 1) 116 61 0) 116 62 0)) ∧ (¬ S.2 116 62 = S.2 116 61 → K S))) : rz mM_givesMore 45 [(0, .ref 116)] [] S (rz_v K) := by
  refine rz_pure (pc' := 46) d_M_givesMore_45 rfl ?_
  refine rz_getiv (v := S.2 116 62) d_M_givesMore_46 f_12_245 rfl rfl rfl ?_
  refine rz_pure (pc' := 50) d_M_givesMore_49 rfl ?_
  refine rz_getiv (v := S.2 116 61) d_M_givesMore_50 f_12_242 rfl rfl rfl ?_
  refine rz_icmpne (tgt := 71) d_M_givesMore_53 rfl (fun b1 => ?_) (fun b1 => ?_)
  · skip
    exact rz_vretv d_M_givesMore_71 rfl (w.2 b1)
  · skip
    refine rz_pure (pc' := 57) d_M_givesMore_56 rfl ?_
    refine rz_iconst (v := 1) d_M_givesMore_57 (by decide) ?_
    refine rz_puti d_M_givesMore_58 f_12_374 rfl rfl rfl ?_
    refine rz_pure (pc' := 62) d_M_givesMore_61 rfl ?_
    refine rz_iconst (v := 0) d_M_givesMore_62 (by decide) ?_
    refine rz_puti d_M_givesMore_63 f_12_242 rfl rfl rfl ?_
    refine rz_pure (pc' := 67) d_M_givesMore_66 rfl ?_
    refine rz_iconst (v := 0) d_M_givesMore_67 (by decide) ?_
    refine rz_puti d_M_givesMore_68 f_12_245 rfl rfl rfl ?_
    exact rz_vretv d_M_givesMore_71 rfl (w.1 b1)
theorem d_M_says_0 : decode (rm_code mM_says) 0 = .ok (.aload_n 0, 1) := by decide +kernel
theorem d_M_says_1 : decode (rm_code mM_says) 1 = .ok (.getfield 398, 3) := by decide +kernel
theorem d_M_says_4 : decode (rm_code mM_says) 4 = .ok (.aload_n 0, 1) := by decide +kernel
theorem d_M_says_5 : decode (rm_code mM_says) 5 = .ok (.getfield 401, 3) := by decide +kernel
theorem d_M_says_8 : decode (rm_code mM_says) 8 = .ok (.iload_n 1, 1) := by decide +kernel
theorem d_M_says_9 : decode (rm_code mM_says) 9 = .ok (.iastore, 1) := by decide +kernel
theorem d_M_says_10 : decode (rm_code mM_says) 10 = .ok (.aload_n 0, 1) := by decide +kernel
theorem d_M_says_11 : decode (rm_code mM_says) 11 = .ok (.aload_n 0, 1) := by decide +kernel
theorem d_M_says_12 : decode (rm_code mM_says) 12 = .ok (.getfield 401, 3) := by decide +kernel
theorem d_M_says_15 : decode (rm_code mM_says) 15 = .ok (.iconst 1, 1) := by decide +kernel
theorem d_M_says_16 : decode (rm_code mM_says) 16 = .ok (.iadd, 1) := by decide +kernel
theorem d_M_says_17 : decode (rm_code mM_says) 17 = .ok (.putfield 401, 3) := by decide +kernel
theorem d_M_says_20 : decode (rm_code mM_says) 20 = .ok (.return_, 1) := by decide +kernel
theorem p_M_says_0 {S : rz_S} {K : rz_S → Prop} {a1 : Int32} (w : rx_in (S.2 116 70) 40 = true ∧ K (rz_uI (rz_fA S 153 (upd (S.1 153) ((S.2 116 70).toNatClampNeg) a1)) 116 70 ((S.2 116 70) + 1))) : rz mM_says 0 [(0, .ref 116), (1, .int a1)] [] S (rz_v K) := by
  refine rz_pure (pc' := 1) d_M_says_0 rfl ?_
  refine rz_getr d_M_says_1 f_12_398 rfl rfl ?_
  refine rz_pure (pc' := 5) d_M_says_4 rfl ?_
  refine rz_getiv (v := S.2 116 70) d_M_says_5 f_12_401 rfl rfl rfl ?_
  refine rz_pure (pc' := 9) d_M_says_8 rfl ?_
  refine rz_iastv (F := S.1 153) (i := (S.2 116 70).toNatClampNeg) d_M_says_9 rfl w.1 rfl rfl ?_
  refine rz_pure (pc' := 11) d_M_says_10 rfl ?_
  refine rz_pure (pc' := 12) d_M_says_11 rfl ?_
  refine rz_getiv (v := S.2 116 70) d_M_says_12 f_12_401 rfl rfl rfl ?_
  refine rz_iconst (v := 1) d_M_says_15 (by decide) ?_
  refine rz_iadd d_M_says_16 ?_
  refine rz_puti d_M_says_17 f_12_401 rfl rfl rfl ?_
  exact rz_vretv d_M_says_20 rfl w.2
theorem d_M_says8_0 : decode (rm_code mM_says8) 0 = .ok (.bipush (56), 2) := by decide +kernel
theorem d_M_says8_2 : decode (rm_code mM_says8) 2 = .ok (.istore_n 3, 1) := by decide +kernel
theorem d_M_says8_3 : decode (rm_code mM_says8) 3 = .ok (.iload_n 3, 1) := by decide +kernel
theorem d_M_says8_4 : decode (rm_code mM_says8) 4 = .ok (.ifCond .lt (30), 3) := by decide +kernel
theorem d_M_says8_7 : decode (rm_code mM_says8) 7 = .ok (.lload_n 1, 1) := by decide +kernel
theorem d_M_says8_8 : decode (rm_code mM_says8) 8 = .ok (.iload_n 3, 1) := by decide +kernel
theorem d_M_says8_9 : decode (rm_code mM_says8) 9 = .ok (.lshr, 1) := by decide +kernel
theorem d_M_says8_10 : decode (rm_code mM_says8) 10 = .ok (.ldc2_w 404, 3) := by decide +kernel
theorem d_M_says8_13 : decode (rm_code mM_says8) 13 = .ok (.land, 1) := by decide +kernel
theorem d_M_says8_14 : decode (rm_code mM_says8) 14 = .ok (.l2i, 1) := by decide +kernel
theorem d_M_says8_15 : decode (rm_code mM_says8) 15 = .ok (.istore 4, 2) := by decide +kernel
theorem d_M_says8_17 : decode (rm_code mM_says8) 17 = .ok (.iload 4, 2) := by decide +kernel
theorem d_M_says8_19 : decode (rm_code mM_says8) 19 = .ok (.ifCond .eq (9), 3) := by decide +kernel
theorem d_M_says8_22 : decode (rm_code mM_says8) 22 = .ok (.aload_n 0, 1) := by decide +kernel
theorem d_M_says8_23 : decode (rm_code mM_says8) 23 = .ok (.iload 4, 2) := by decide +kernel
theorem d_M_says8_25 : decode (rm_code mM_says8) 25 = .ok (.invokevirtual 406, 3) := by decide +kernel
theorem d_M_says8_28 : decode (rm_code mM_says8) 28 = .ok (.iinc 3 (-8), 3) := by decide +kernel
theorem d_M_says8_31 : decode (rm_code mM_says8) 31 = .ok (.goto (-28), 3) := by decide +kernel
theorem d_M_says8_34 : decode (rm_code mM_says8) 34 = .ok (.return_, 1) := by decide +kernel
theorem p_M_says8_0 {S : rz_S} {K : rz_S → Prop} {a1 : Int64} (w : rz mM_says8 3 [(0, .ref 116), (1, .long a1), (3, .int 56)] [] S (rz_v K)) : rz mM_says8 0 [(0, .ref 116), (1, .long a1)] [] S (rz_v K) := by
  refine rz_bipush (v := 56) d_M_says8_0 (by decide) ?_
  refine rz_pure (pc' := 3) (l' := [(3, .int 56), (0, .ref 116), (1, .long a1)]) d_M_says8_2 rfl ?_
  exact rz_pick (ks := [0, 1, 3]) (l := [(0, .ref 116), (1, .long a1), (3, .int 56)]) rfl rfl (by decide) rfl w
theorem p_M_says8_3 {S : rz_S} {K : rz_S → Prop} {a1 : Int64} {a3 : Int32} (w : ((a3 < 0 → K S) ∧ (¬ a3 < 0 → ((((a1 >>> (a3.toInt64 &&& 63)) &&& (255 : Int64)).toInt32 = 0 → rz mM_says8 3 [(0, .ref 116), (1, .long a1), (3, .int (a3 + (-8)))] [] S (rz_v K)) ∧ (¬ ((a1 >>> (a3.toInt64 &&& 63)) &&& (255 : Int64)).toInt32 = 0 → rz_ev mM_says [.ref 116, .int (((a1 >>> (a3.toInt64 &&& 63)) &&& (255 : Int64)).toInt32)] S (rz_v (fun Sq3 => rz mM_says8 3 [(0, .ref 116), (1, .long a1), (3, .int (a3 + (-8)))] [] Sq3 (rz_v K)))))))) : rz mM_says8 3 [(0, .ref 116), (1, .long a1), (3, .int a3)] [] S (rz_v K) := by
  refine rz_pure (pc' := 4) d_M_says8_3 rfl ?_
  refine rz_iflt (tgt := 34) d_M_says8_4 rfl (fun b1 => ?_) (fun b1 => ?_)
  · skip
    exact rz_vretv d_M_says8_34 rfl (w.1 b1)
  · skip
    refine rz_pure (pc' := 8) d_M_says8_7 rfl ?_
    refine rz_pure (pc' := 9) d_M_says8_8 rfl ?_
    refine rz_pure (pc' := 10) d_M_says8_9 rfl ?_
    refine rz_ldcl (z := 255) d_M_says8_10 rfl ?_
    refine rz_pure (pc' := 14) d_M_says8_13 rfl ?_
    refine rz_pure (pc' := 15) d_M_says8_14 rfl ?_
    refine rz_pure (pc' := 17) (l' := [(4, .int (((a1 >>> (a3.toInt64 &&& 63)) &&& (255 : Int64)).toInt32)), (0, .ref 116), (1, .long a1), (3, .int a3)]) d_M_says8_15 rfl ?_
    refine rz_pure (pc' := 19) d_M_says8_17 rfl ?_
    refine rz_ifeq (tgt := 28) d_M_says8_19 rfl (fun b2 => ?_) (fun b2 => ?_)
    · skip
      refine rz_pure (pc' := 31) (l' := [(3, .int (a3 + (-8))), (4, .int (((a1 >>> (a3.toInt64 &&& 63)) &&& (255 : Int64)).toInt32)), (0, .ref 116), (1, .long a1)]) d_M_says8_28 rfl ?_
      refine rz_pure (pc' := 3) d_M_says8_31 rfl ?_
      exact rz_pick (ks := [0, 1, 3]) (l := [(0, .ref 116), (1, .long a1), (3, .int (a3 + (-8)))]) rfl rfl (by decide) rfl ((w.2 b1).1 b2)
    · skip
      refine rz_pure (pc' := 23) d_M_says8_22 rfl ?_
      refine rz_pure (pc' := 25) d_M_says8_23 rfl ?_
      refine rz_callVv (t := [.int (((a1 >>> (a3.toInt64 &&& 63)) &&& (255 : Int64)).toInt32)]) d_M_says8_25 w_12_406 rfl rfl rfl ((w.2 b1).2 b2) (fun Sq3 q3 => ?_)
      refine rz_pure (pc' := 31) (l' := [(3, .int (a3 + (-8))), (4, .int (((a1 >>> (a3.toInt64 &&& 63)) &&& (255 : Int64)).toInt32)), (0, .ref 116), (1, .long a1)]) d_M_says8_28 rfl ?_
      refine rz_pure (pc' := 3) d_M_says8_31 rfl ?_
      exact rz_pick (ks := [0, 1, 3]) (l := [(0, .ref 116), (1, .long a1), (3, .int (a3 + (-8)))]) rfl rfl (by decide) rfl q3
theorem d_M_saysNumber_0 : decode (rm_code mM_saysNumber) 0 = .ok (.iload_n 1, 1) := by decide +kernel
theorem d_M_saysNumber_1 : decode (rm_code mM_saysNumber) 1 = .ok (.sipush (1000), 3) := by decide +kernel
theorem d_M_saysNumber_4 : decode (rm_code mM_saysNumber) 4 = .ok (.if_icmp .lt (15), 3) := by decide +kernel
theorem d_M_saysNumber_7 : decode (rm_code mM_saysNumber) 7 = .ok (.aload_n 0, 1) := by decide +kernel
theorem d_M_saysNumber_8 : decode (rm_code mM_saysNumber) 8 = .ok (.bipush (48), 2) := by decide +kernel
theorem d_M_saysNumber_10 : decode (rm_code mM_saysNumber) 10 = .ok (.iload_n 1, 1) := by decide +kernel
theorem d_M_saysNumber_11 : decode (rm_code mM_saysNumber) 11 = .ok (.sipush (1000), 3) := by decide +kernel
theorem d_M_saysNumber_14 : decode (rm_code mM_saysNumber) 14 = .ok (.idiv, 1) := by decide +kernel
theorem d_M_saysNumber_15 : decode (rm_code mM_saysNumber) 15 = .ok (.iadd, 1) := by decide +kernel
theorem d_M_saysNumber_16 : decode (rm_code mM_saysNumber) 16 = .ok (.invokevirtual 406, 3) := by decide +kernel
theorem d_M_saysNumber_19 : decode (rm_code mM_saysNumber) 19 = .ok (.iload_n 1, 1) := by decide +kernel
theorem d_M_saysNumber_20 : decode (rm_code mM_saysNumber) 20 = .ok (.bipush (100), 2) := by decide +kernel
theorem d_M_saysNumber_22 : decode (rm_code mM_saysNumber) 22 = .ok (.if_icmp .lt (17), 3) := by decide +kernel
theorem d_M_saysNumber_25 : decode (rm_code mM_saysNumber) 25 = .ok (.aload_n 0, 1) := by decide +kernel
theorem d_M_saysNumber_26 : decode (rm_code mM_saysNumber) 26 = .ok (.bipush (48), 2) := by decide +kernel
theorem d_M_saysNumber_28 : decode (rm_code mM_saysNumber) 28 = .ok (.iload_n 1, 1) := by decide +kernel
theorem d_M_saysNumber_29 : decode (rm_code mM_saysNumber) 29 = .ok (.bipush (100), 2) := by decide +kernel
theorem d_M_saysNumber_31 : decode (rm_code mM_saysNumber) 31 = .ok (.idiv, 1) := by decide +kernel
theorem d_M_saysNumber_32 : decode (rm_code mM_saysNumber) 32 = .ok (.bipush (10), 2) := by decide +kernel
theorem d_M_saysNumber_34 : decode (rm_code mM_saysNumber) 34 = .ok (.irem, 1) := by decide +kernel
theorem d_M_saysNumber_35 : decode (rm_code mM_saysNumber) 35 = .ok (.iadd, 1) := by decide +kernel
theorem d_M_saysNumber_36 : decode (rm_code mM_saysNumber) 36 = .ok (.invokevirtual 406, 3) := by decide +kernel
theorem d_M_saysNumber_39 : decode (rm_code mM_saysNumber) 39 = .ok (.iload_n 1, 1) := by decide +kernel
theorem d_M_saysNumber_40 : decode (rm_code mM_saysNumber) 40 = .ok (.bipush (10), 2) := by decide +kernel
theorem d_M_saysNumber_42 : decode (rm_code mM_saysNumber) 42 = .ok (.if_icmp .lt (17), 3) := by decide +kernel
theorem d_M_saysNumber_45 : decode (rm_code mM_saysNumber) 45 = .ok (.aload_n 0, 1) := by decide +kernel
theorem d_M_saysNumber_46 : decode (rm_code mM_saysNumber) 46 = .ok (.bipush (48), 2) := by decide +kernel
theorem d_M_saysNumber_48 : decode (rm_code mM_saysNumber) 48 = .ok (.iload_n 1, 1) := by decide +kernel
theorem d_M_saysNumber_49 : decode (rm_code mM_saysNumber) 49 = .ok (.bipush (10), 2) := by decide +kernel
theorem d_M_saysNumber_51 : decode (rm_code mM_saysNumber) 51 = .ok (.idiv, 1) := by decide +kernel
theorem d_M_saysNumber_52 : decode (rm_code mM_saysNumber) 52 = .ok (.bipush (10), 2) := by decide +kernel
theorem d_M_saysNumber_54 : decode (rm_code mM_saysNumber) 54 = .ok (.irem, 1) := by decide +kernel
theorem d_M_saysNumber_55 : decode (rm_code mM_saysNumber) 55 = .ok (.iadd, 1) := by decide +kernel
theorem d_M_saysNumber_56 : decode (rm_code mM_saysNumber) 56 = .ok (.invokevirtual 406, 3) := by decide +kernel
theorem d_M_saysNumber_59 : decode (rm_code mM_saysNumber) 59 = .ok (.aload_n 0, 1) := by decide +kernel
theorem d_M_saysNumber_60 : decode (rm_code mM_saysNumber) 60 = .ok (.bipush (48), 2) := by decide +kernel
theorem d_M_saysNumber_62 : decode (rm_code mM_saysNumber) 62 = .ok (.iload_n 1, 1) := by decide +kernel
theorem d_M_saysNumber_63 : decode (rm_code mM_saysNumber) 63 = .ok (.bipush (10), 2) := by decide +kernel
theorem d_M_saysNumber_65 : decode (rm_code mM_saysNumber) 65 = .ok (.irem, 1) := by decide +kernel
theorem d_M_saysNumber_66 : decode (rm_code mM_saysNumber) 66 = .ok (.iadd, 1) := by decide +kernel
theorem d_M_saysNumber_67 : decode (rm_code mM_saysNumber) 67 = .ok (.invokevirtual 406, 3) := by decide +kernel
theorem d_M_saysNumber_70 : decode (rm_code mM_saysNumber) 70 = .ok (.return_, 1) := by decide +kernel
theorem p_M_saysNumber_0 {S : rz_S} {K : rz_S → Prop} {a1 : Int32} (w : ((a1 < 1000 → rz mM_saysNumber 19 [(0, .ref 116), (1, .int a1)] [] S (rz_v K)) ∧ (¬ a1 < 1000 → rz_ev mM_says [.ref 116, .int (48 + (a1 / 1000))] S (rz_v (fun Sq2 => rz mM_saysNumber 19 [(0, .ref 116), (1, .int a1)] [] Sq2 (rz_v K)))))) : rz mM_saysNumber 0 [(0, .ref 116), (1, .int a1)] [] S (rz_v K) := by
  refine rz_pure (pc' := 1) d_M_saysNumber_0 rfl ?_
  refine rz_sipush (v := 1000) d_M_saysNumber_1 (by decide) ?_
  refine rz_icmplt (tgt := 19) d_M_saysNumber_4 rfl (fun b1 => ?_) (fun b1 => ?_)
  · skip
    exact rz_pick (ks := [0, 1]) (l := [(0, .ref 116), (1, .int a1)]) rfl rfl (by decide) rfl (w.1 b1)
  · skip
    refine rz_pure (pc' := 8) d_M_saysNumber_7 rfl ?_
    refine rz_bipush (v := 48) d_M_saysNumber_8 (by decide) ?_
    refine rz_pure (pc' := 11) d_M_saysNumber_10 rfl ?_
    refine rz_sipush (v := 1000) d_M_saysNumber_11 (by decide) ?_
    refine rz_idiv d_M_saysNumber_14 (by decide) ?_
    refine rz_iadd d_M_saysNumber_15 ?_
    refine rz_callVv (t := [.int (48 + (a1 / 1000))]) d_M_saysNumber_16 w_12_406 rfl rfl rfl (w.2 b1) (fun Sq2 q2 => ?_)
    exact rz_pick (ks := [0, 1]) (l := [(0, .ref 116), (1, .int a1)]) rfl rfl (by decide) rfl q2
theorem p_M_saysNumber_19 {S : rz_S} {K : rz_S → Prop} {a1 : Int32} (w : ((a1 < 100 → rz mM_saysNumber 39 [(0, .ref 116), (1, .int a1)] [] S (rz_v K)) ∧ (¬ a1 < 100 → rz_ev mM_says [.ref 116, .int (48 + ((a1 / 100) - (a1 / 100) / 10 * 10))] S (rz_v (fun Sq2 => rz mM_saysNumber 39 [(0, .ref 116), (1, .int a1)] [] Sq2 (rz_v K)))))) : rz mM_saysNumber 19 [(0, .ref 116), (1, .int a1)] [] S (rz_v K) := by
  refine rz_pure (pc' := 20) d_M_saysNumber_19 rfl ?_
  refine rz_bipush (v := 100) d_M_saysNumber_20 (by decide) ?_
  refine rz_icmplt (tgt := 39) d_M_saysNumber_22 rfl (fun b1 => ?_) (fun b1 => ?_)
  · skip
    exact rz_pick (ks := [0, 1]) (l := [(0, .ref 116), (1, .int a1)]) rfl rfl (by decide) rfl (w.1 b1)
  · skip
    refine rz_pure (pc' := 26) d_M_saysNumber_25 rfl ?_
    refine rz_bipush (v := 48) d_M_saysNumber_26 (by decide) ?_
    refine rz_pure (pc' := 29) d_M_saysNumber_28 rfl ?_
    refine rz_bipush (v := 100) d_M_saysNumber_29 (by decide) ?_
    refine rz_idiv d_M_saysNumber_31 (by decide) ?_
    refine rz_bipush (v := 10) d_M_saysNumber_32 (by decide) ?_
    refine rz_irem d_M_saysNumber_34 (by decide) ?_
    refine rz_iadd d_M_saysNumber_35 ?_
    refine rz_callVv (t := [.int (48 + ((a1 / 100) - (a1 / 100) / 10 * 10))]) d_M_saysNumber_36 w_12_406 rfl rfl rfl (w.2 b1) (fun Sq2 q2 => ?_)
    exact rz_pick (ks := [0, 1]) (l := [(0, .ref 116), (1, .int a1)]) rfl rfl (by decide) rfl q2
theorem p_M_saysNumber_39 {S : rz_S} {K : rz_S → Prop} {a1 : Int32} (w : ((a1 < 10 → rz mM_saysNumber 59 [(0, .ref 116), (1, .int a1)] [] S (rz_v K)) ∧ (¬ a1 < 10 → rz_ev mM_says [.ref 116, .int (48 + ((a1 / 10) - (a1 / 10) / 10 * 10))] S (rz_v (fun Sq2 => rz mM_saysNumber 59 [(0, .ref 116), (1, .int a1)] [] Sq2 (rz_v K)))))) : rz mM_saysNumber 39 [(0, .ref 116), (1, .int a1)] [] S (rz_v K) := by
  refine rz_pure (pc' := 40) d_M_saysNumber_39 rfl ?_
  refine rz_bipush (v := 10) d_M_saysNumber_40 (by decide) ?_
  refine rz_icmplt (tgt := 59) d_M_saysNumber_42 rfl (fun b1 => ?_) (fun b1 => ?_)
  · skip
    exact rz_pick (ks := [0, 1]) (l := [(0, .ref 116), (1, .int a1)]) rfl rfl (by decide) rfl (w.1 b1)
  · skip
    refine rz_pure (pc' := 46) d_M_saysNumber_45 rfl ?_
    refine rz_bipush (v := 48) d_M_saysNumber_46 (by decide) ?_
    refine rz_pure (pc' := 49) d_M_saysNumber_48 rfl ?_
    refine rz_bipush (v := 10) d_M_saysNumber_49 (by decide) ?_
    refine rz_idiv d_M_saysNumber_51 (by decide) ?_
    refine rz_bipush (v := 10) d_M_saysNumber_52 (by decide) ?_
    refine rz_irem d_M_saysNumber_54 (by decide) ?_
    refine rz_iadd d_M_saysNumber_55 ?_
    refine rz_callVv (t := [.int (48 + ((a1 / 10) - (a1 / 10) / 10 * 10))]) d_M_saysNumber_56 w_12_406 rfl rfl rfl (w.2 b1) (fun Sq2 q2 => ?_)
    exact rz_pick (ks := [0, 1]) (l := [(0, .ref 116), (1, .int a1)]) rfl rfl (by decide) rfl q2
theorem p_M_saysNumber_59 {S : rz_S} {K : rz_S → Prop} {a1 : Int32} (w : rz_ev mM_says [.ref 116, .int (48 + (a1 - a1 / 10 * 10))] S (rz_v (fun Sq1 => K Sq1))) : rz mM_saysNumber 59 [(0, .ref 116), (1, .int a1)] [] S (rz_v K) := by
  refine rz_pure (pc' := 60) d_M_saysNumber_59 rfl ?_
  refine rz_bipush (v := 48) d_M_saysNumber_60 (by decide) ?_
  refine rz_pure (pc' := 63) d_M_saysNumber_62 rfl ?_
  refine rz_bipush (v := 10) d_M_saysNumber_63 (by decide) ?_
  refine rz_irem d_M_saysNumber_65 (by decide) ?_
  refine rz_iadd d_M_saysNumber_66 ?_
  refine rz_callVv (t := [.int (48 + (a1 - a1 / 10 * 10))]) d_M_saysNumber_67 w_12_406 rfl rfl rfl w (fun Sq1 q1 => ?_)
  exact rz_vretv d_M_saysNumber_70 rfl q1
theorem d_M_saysTwo_0 : decode (rm_code mM_saysTwo) 0 = .ok (.aload_n 0, 1) := by decide +kernel
theorem d_M_saysTwo_1 : decode (rm_code mM_saysTwo) 1 = .ok (.bipush (48), 2) := by decide +kernel
theorem d_M_saysTwo_3 : decode (rm_code mM_saysTwo) 3 = .ok (.iload_n 1, 1) := by decide +kernel
theorem d_M_saysTwo_4 : decode (rm_code mM_saysTwo) 4 = .ok (.bipush (10), 2) := by decide +kernel
theorem d_M_saysTwo_6 : decode (rm_code mM_saysTwo) 6 = .ok (.idiv, 1) := by decide +kernel
theorem d_M_saysTwo_7 : decode (rm_code mM_saysTwo) 7 = .ok (.bipush (10), 2) := by decide +kernel
theorem d_M_saysTwo_9 : decode (rm_code mM_saysTwo) 9 = .ok (.irem, 1) := by decide +kernel
theorem d_M_saysTwo_10 : decode (rm_code mM_saysTwo) 10 = .ok (.iadd, 1) := by decide +kernel
theorem d_M_saysTwo_11 : decode (rm_code mM_saysTwo) 11 = .ok (.invokevirtual 406, 3) := by decide +kernel
theorem d_M_saysTwo_14 : decode (rm_code mM_saysTwo) 14 = .ok (.aload_n 0, 1) := by decide +kernel
theorem d_M_saysTwo_15 : decode (rm_code mM_saysTwo) 15 = .ok (.bipush (48), 2) := by decide +kernel
theorem d_M_saysTwo_17 : decode (rm_code mM_saysTwo) 17 = .ok (.iload_n 1, 1) := by decide +kernel
theorem d_M_saysTwo_18 : decode (rm_code mM_saysTwo) 18 = .ok (.bipush (10), 2) := by decide +kernel
theorem d_M_saysTwo_20 : decode (rm_code mM_saysTwo) 20 = .ok (.irem, 1) := by decide +kernel
theorem d_M_saysTwo_21 : decode (rm_code mM_saysTwo) 21 = .ok (.iadd, 1) := by decide +kernel
theorem d_M_saysTwo_22 : decode (rm_code mM_saysTwo) 22 = .ok (.invokevirtual 406, 3) := by decide +kernel
theorem d_M_saysTwo_25 : decode (rm_code mM_saysTwo) 25 = .ok (.return_, 1) := by decide +kernel
theorem p_M_saysTwo_0 {S : rz_S} {K : rz_S → Prop} {a1 : Int32} (w : rz_ev mM_says [.ref 116, .int (48 + ((a1 / 10) - (a1 / 10) / 10 * 10))] S (rz_v (fun Sq1 => rz_ev mM_says [.ref 116, .int (48 + (a1 - a1 / 10 * 10))] Sq1 (rz_v (fun Sq2 => K Sq2))))) : rz mM_saysTwo 0 [(0, .ref 116), (1, .int a1)] [] S (rz_v K) := by
  refine rz_pure (pc' := 1) d_M_saysTwo_0 rfl ?_
  refine rz_bipush (v := 48) d_M_saysTwo_1 (by decide) ?_
  refine rz_pure (pc' := 4) d_M_saysTwo_3 rfl ?_
  refine rz_bipush (v := 10) d_M_saysTwo_4 (by decide) ?_
  refine rz_idiv d_M_saysTwo_6 (by decide) ?_
  refine rz_bipush (v := 10) d_M_saysTwo_7 (by decide) ?_
  refine rz_irem d_M_saysTwo_9 (by decide) ?_
  refine rz_iadd d_M_saysTwo_10 ?_
  refine rz_callVv (t := [.int (48 + ((a1 / 10) - (a1 / 10) / 10 * 10))]) d_M_saysTwo_11 w_12_406 rfl rfl rfl w (fun Sq1 q1 => ?_)
  refine rz_pure (pc' := 15) d_M_saysTwo_14 rfl ?_
  refine rz_bipush (v := 48) d_M_saysTwo_15 (by decide) ?_
  refine rz_pure (pc' := 18) d_M_saysTwo_17 rfl ?_
  refine rz_bipush (v := 10) d_M_saysTwo_18 (by decide) ?_
  refine rz_irem d_M_saysTwo_20 (by decide) ?_
  refine rz_iadd d_M_saysTwo_21 ?_
  refine rz_callVv (t := [.int (48 + (a1 - a1 / 10 * 10))]) d_M_saysTwo_22 w_12_406 rfl rfl rfl q1 (fun Sq2 q2 => ?_)
  exact rz_vretv d_M_saysTwo_25 rfl q2
theorem d_M_saysWords_0 : decode (rm_code mM_saysWords) 0 = .ok (.iload_n 1, 1) := by decide +kernel
theorem d_M_saysWords_1 : decode (rm_code mM_saysWords) 1 = .ok (.bipush (20), 2) := by decide +kernel
theorem d_M_saysWords_3 : decode (rm_code mM_saysWords) 3 = .ok (.if_icmp .lt (24), 3) := by decide +kernel
theorem d_M_saysWords_6 : decode (rm_code mM_saysWords) 6 = .ok (.iload_n 1, 1) := by decide +kernel
theorem d_M_saysWords_7 : decode (rm_code mM_saysWords) 7 = .ok (.bipush (24), 2) := by decide +kernel
theorem d_M_saysWords_9 : decode (rm_code mM_saysWords) 9 = .ok (.if_icmp .gt (18), 3) := by decide +kernel
theorem d_M_saysWords_12 : decode (rm_code mM_saysWords) 12 = .ok (.aload_n 0, 1) := by decide +kernel
theorem d_M_saysWords_13 : decode (rm_code mM_saysWords) 13 = .ok (.ldc2_w 409, 3) := by decide +kernel
theorem d_M_saysWords_16 : decode (rm_code mM_saysWords) 16 = .ok (.invokevirtual 411, 3) := by decide +kernel
theorem d_M_saysWords_19 : decode (rm_code mM_saysWords) 19 = .ok (.aload_n 0, 1) := by decide +kernel
theorem d_M_saysWords_20 : decode (rm_code mM_saysWords) 20 = .ok (.ldc2_w 415, 3) := by decide +kernel
theorem d_M_saysWords_23 : decode (rm_code mM_saysWords) 23 = .ok (.invokevirtual 411, 3) := by decide +kernel
theorem d_M_saysWords_26 : decode (rm_code mM_saysWords) 26 = .ok (.return_, 1) := by decide +kernel
theorem d_M_saysWords_27 : decode (rm_code mM_saysWords) 27 = .ok (.iload_n 1, 1) := by decide +kernel
theorem d_M_saysWords_28 : decode (rm_code mM_saysWords) 28 = .ok (.bipush (30), 2) := by decide +kernel
theorem d_M_saysWords_30 : decode (rm_code mM_saysWords) 30 = .ok (.if_icmp .lt (24), 3) := by decide +kernel
theorem d_M_saysWords_33 : decode (rm_code mM_saysWords) 33 = .ok (.iload_n 1, 1) := by decide +kernel
theorem d_M_saysWords_34 : decode (rm_code mM_saysWords) 34 = .ok (.bipush (34), 2) := by decide +kernel
theorem d_M_saysWords_36 : decode (rm_code mM_saysWords) 36 = .ok (.if_icmp .gt (18), 3) := by decide +kernel
theorem d_M_saysWords_39 : decode (rm_code mM_saysWords) 39 = .ok (.aload_n 0, 1) := by decide +kernel
theorem d_M_saysWords_40 : decode (rm_code mM_saysWords) 40 = .ok (.ldc2_w 417, 3) := by decide +kernel
theorem d_M_saysWords_43 : decode (rm_code mM_saysWords) 43 = .ok (.invokevirtual 411, 3) := by decide +kernel
theorem d_M_saysWords_46 : decode (rm_code mM_saysWords) 46 = .ok (.aload_n 0, 1) := by decide +kernel
theorem d_M_saysWords_47 : decode (rm_code mM_saysWords) 47 = .ok (.ldc2_w 419, 3) := by decide +kernel
theorem d_M_saysWords_50 : decode (rm_code mM_saysWords) 50 = .ok (.invokevirtual 411, 3) := by decide +kernel
theorem d_M_saysWords_53 : decode (rm_code mM_saysWords) 53 = .ok (.return_, 1) := by decide +kernel
theorem d_M_saysWords_54 : decode (rm_code mM_saysWords) 54 = .ok (.iload_n 1, 1) := by decide +kernel
theorem d_M_saysWords_55 : decode (rm_code mM_saysWords) 55 = .ok (.lookupswitch (409) #[((0), (137)), ((1), (147)), ((25), (164)), ((26), (181)), ((28), (205)), ((60), (222)), ((61), (239)), ((62), (256)), ((63), (273)), ((64), (290)), ((65), (314)), ((66), (324)), ((70), (341)), ((71), (358)), ((72), (375)), ((73), (392))], 137) := by decide +kernel
theorem d_M_saysWords_192 : decode (rm_code mM_saysWords) 192 = .ok (.aload_n 0, 1) := by decide +kernel
theorem d_M_saysWords_193 : decode (rm_code mM_saysWords) 193 = .ok (.ldc2_w 421, 3) := by decide +kernel
theorem d_M_saysWords_196 : decode (rm_code mM_saysWords) 196 = .ok (.invokevirtual 411, 3) := by decide +kernel
theorem d_M_saysWords_199 : decode (rm_code mM_saysWords) 199 = .ok (.goto (279), 3) := by decide +kernel
theorem d_M_saysWords_202 : decode (rm_code mM_saysWords) 202 = .ok (.aload_n 0, 1) := by decide +kernel
theorem d_M_saysWords_203 : decode (rm_code mM_saysWords) 203 = .ok (.ldc2_w 423, 3) := by decide +kernel
theorem d_M_saysWords_206 : decode (rm_code mM_saysWords) 206 = .ok (.invokevirtual 411, 3) := by decide +kernel
theorem d_M_saysWords_209 : decode (rm_code mM_saysWords) 209 = .ok (.aload_n 0, 1) := by decide +kernel
theorem d_M_saysWords_210 : decode (rm_code mM_saysWords) 210 = .ok (.ldc2_w 425, 3) := by decide +kernel
theorem d_M_saysWords_213 : decode (rm_code mM_saysWords) 213 = .ok (.invokevirtual 411, 3) := by decide +kernel
theorem d_M_saysWords_216 : decode (rm_code mM_saysWords) 216 = .ok (.goto (262), 3) := by decide +kernel
theorem d_M_saysWords_219 : decode (rm_code mM_saysWords) 219 = .ok (.aload_n 0, 1) := by decide +kernel
theorem d_M_saysWords_220 : decode (rm_code mM_saysWords) 220 = .ok (.ldc2_w 427, 3) := by decide +kernel
theorem d_M_saysWords_223 : decode (rm_code mM_saysWords) 223 = .ok (.invokevirtual 411, 3) := by decide +kernel
theorem d_M_saysWords_226 : decode (rm_code mM_saysWords) 226 = .ok (.aload_n 0, 1) := by decide +kernel
theorem d_M_saysWords_227 : decode (rm_code mM_saysWords) 227 = .ok (.ldc2_w 429, 3) := by decide +kernel
theorem d_M_saysWords_230 : decode (rm_code mM_saysWords) 230 = .ok (.invokevirtual 411, 3) := by decide +kernel
theorem d_M_saysWords_233 : decode (rm_code mM_saysWords) 233 = .ok (.goto (245), 3) := by decide +kernel
theorem d_M_saysWords_236 : decode (rm_code mM_saysWords) 236 = .ok (.aload_n 0, 1) := by decide +kernel
theorem d_M_saysWords_237 : decode (rm_code mM_saysWords) 237 = .ok (.ldc2_w 431, 3) := by decide +kernel
theorem d_M_saysWords_240 : decode (rm_code mM_saysWords) 240 = .ok (.invokevirtual 411, 3) := by decide +kernel
theorem d_M_saysWords_243 : decode (rm_code mM_saysWords) 243 = .ok (.aload_n 0, 1) := by decide +kernel
theorem d_M_saysWords_244 : decode (rm_code mM_saysWords) 244 = .ok (.ldc2_w 433, 3) := by decide +kernel
theorem d_M_saysWords_247 : decode (rm_code mM_saysWords) 247 = .ok (.invokevirtual 411, 3) := by decide +kernel
theorem d_M_saysWords_250 : decode (rm_code mM_saysWords) 250 = .ok (.aload_n 0, 1) := by decide +kernel
theorem d_M_saysWords_251 : decode (rm_code mM_saysWords) 251 = .ok (.ldc2_w 435, 3) := by decide +kernel
theorem d_M_saysWords_254 : decode (rm_code mM_saysWords) 254 = .ok (.invokevirtual 411, 3) := by decide +kernel
theorem d_M_saysWords_257 : decode (rm_code mM_saysWords) 257 = .ok (.goto (221), 3) := by decide +kernel
theorem d_M_saysWords_260 : decode (rm_code mM_saysWords) 260 = .ok (.aload_n 0, 1) := by decide +kernel
theorem d_M_saysWords_261 : decode (rm_code mM_saysWords) 261 = .ok (.ldc2_w 437, 3) := by decide +kernel
theorem d_M_saysWords_264 : decode (rm_code mM_saysWords) 264 = .ok (.invokevirtual 411, 3) := by decide +kernel
theorem d_M_saysWords_267 : decode (rm_code mM_saysWords) 267 = .ok (.aload_n 0, 1) := by decide +kernel
theorem d_M_saysWords_268 : decode (rm_code mM_saysWords) 268 = .ok (.ldc2_w 439, 3) := by decide +kernel
theorem d_M_saysWords_271 : decode (rm_code mM_saysWords) 271 = .ok (.invokevirtual 411, 3) := by decide +kernel
theorem d_M_saysWords_274 : decode (rm_code mM_saysWords) 274 = .ok (.goto (204), 3) := by decide +kernel
theorem d_M_saysWords_277 : decode (rm_code mM_saysWords) 277 = .ok (.aload_n 0, 1) := by decide +kernel
theorem d_M_saysWords_278 : decode (rm_code mM_saysWords) 278 = .ok (.ldc2_w 441, 3) := by decide +kernel
theorem d_M_saysWords_281 : decode (rm_code mM_saysWords) 281 = .ok (.invokevirtual 411, 3) := by decide +kernel
theorem d_M_saysWords_284 : decode (rm_code mM_saysWords) 284 = .ok (.aload_n 0, 1) := by decide +kernel
theorem d_M_saysWords_285 : decode (rm_code mM_saysWords) 285 = .ok (.ldc2_w 443, 3) := by decide +kernel
theorem d_M_saysWords_288 : decode (rm_code mM_saysWords) 288 = .ok (.invokevirtual 411, 3) := by decide +kernel
theorem d_M_saysWords_291 : decode (rm_code mM_saysWords) 291 = .ok (.goto (187), 3) := by decide +kernel
theorem d_M_saysWords_294 : decode (rm_code mM_saysWords) 294 = .ok (.aload_n 0, 1) := by decide +kernel
theorem d_M_saysWords_295 : decode (rm_code mM_saysWords) 295 = .ok (.ldc2_w 445, 3) := by decide +kernel
theorem d_M_saysWords_298 : decode (rm_code mM_saysWords) 298 = .ok (.invokevirtual 411, 3) := by decide +kernel
theorem d_M_saysWords_301 : decode (rm_code mM_saysWords) 301 = .ok (.aload_n 0, 1) := by decide +kernel
theorem d_M_saysWords_302 : decode (rm_code mM_saysWords) 302 = .ok (.ldc2_w 447, 3) := by decide +kernel
theorem d_M_saysWords_305 : decode (rm_code mM_saysWords) 305 = .ok (.invokevirtual 411, 3) := by decide +kernel
theorem d_M_saysWords_308 : decode (rm_code mM_saysWords) 308 = .ok (.goto (170), 3) := by decide +kernel
theorem d_M_saysWords_311 : decode (rm_code mM_saysWords) 311 = .ok (.aload_n 0, 1) := by decide +kernel
theorem d_M_saysWords_312 : decode (rm_code mM_saysWords) 312 = .ok (.ldc2_w 445, 3) := by decide +kernel
theorem d_M_saysWords_315 : decode (rm_code mM_saysWords) 315 = .ok (.invokevirtual 411, 3) := by decide +kernel
theorem d_M_saysWords_318 : decode (rm_code mM_saysWords) 318 = .ok (.aload_n 0, 1) := by decide +kernel
theorem d_M_saysWords_319 : decode (rm_code mM_saysWords) 319 = .ok (.ldc2_w 449, 3) := by decide +kernel
theorem d_M_saysWords_322 : decode (rm_code mM_saysWords) 322 = .ok (.invokevirtual 411, 3) := by decide +kernel
theorem d_M_saysWords_325 : decode (rm_code mM_saysWords) 325 = .ok (.goto (153), 3) := by decide +kernel
theorem d_M_saysWords_328 : decode (rm_code mM_saysWords) 328 = .ok (.aload_n 0, 1) := by decide +kernel
theorem d_M_saysWords_329 : decode (rm_code mM_saysWords) 329 = .ok (.ldc2_w 451, 3) := by decide +kernel
theorem d_M_saysWords_332 : decode (rm_code mM_saysWords) 332 = .ok (.invokevirtual 411, 3) := by decide +kernel
theorem d_M_saysWords_335 : decode (rm_code mM_saysWords) 335 = .ok (.aload_n 0, 1) := by decide +kernel
theorem d_M_saysWords_336 : decode (rm_code mM_saysWords) 336 = .ok (.ldc2_w 453, 3) := by decide +kernel
theorem d_M_saysWords_339 : decode (rm_code mM_saysWords) 339 = .ok (.invokevirtual 411, 3) := by decide +kernel
theorem d_M_saysWords_342 : decode (rm_code mM_saysWords) 342 = .ok (.goto (136), 3) := by decide +kernel
theorem d_M_saysWords_345 : decode (rm_code mM_saysWords) 345 = .ok (.aload_n 0, 1) := by decide +kernel
theorem d_M_saysWords_346 : decode (rm_code mM_saysWords) 346 = .ok (.ldc2_w 455, 3) := by decide +kernel
theorem d_M_saysWords_349 : decode (rm_code mM_saysWords) 349 = .ok (.invokevirtual 411, 3) := by decide +kernel
theorem d_M_saysWords_352 : decode (rm_code mM_saysWords) 352 = .ok (.aload_n 0, 1) := by decide +kernel
theorem d_M_saysWords_353 : decode (rm_code mM_saysWords) 353 = .ok (.ldc2_w 457, 3) := by decide +kernel
theorem d_M_saysWords_356 : decode (rm_code mM_saysWords) 356 = .ok (.invokevirtual 411, 3) := by decide +kernel
theorem d_M_saysWords_359 : decode (rm_code mM_saysWords) 359 = .ok (.aload_n 0, 1) := by decide +kernel
theorem d_M_saysWords_360 : decode (rm_code mM_saysWords) 360 = .ok (.ldc2_w 459, 3) := by decide +kernel
theorem d_M_saysWords_363 : decode (rm_code mM_saysWords) 363 = .ok (.invokevirtual 411, 3) := by decide +kernel
theorem d_M_saysWords_366 : decode (rm_code mM_saysWords) 366 = .ok (.goto (112), 3) := by decide +kernel
theorem d_M_saysWords_369 : decode (rm_code mM_saysWords) 369 = .ok (.aload_n 0, 1) := by decide +kernel
theorem d_M_saysWords_370 : decode (rm_code mM_saysWords) 370 = .ok (.ldc2_w 461, 3) := by decide +kernel
theorem d_M_saysWords_373 : decode (rm_code mM_saysWords) 373 = .ok (.invokevirtual 411, 3) := by decide +kernel
theorem d_M_saysWords_376 : decode (rm_code mM_saysWords) 376 = .ok (.goto (102), 3) := by decide +kernel
theorem d_M_saysWords_379 : decode (rm_code mM_saysWords) 379 = .ok (.aload_n 0, 1) := by decide +kernel
theorem d_M_saysWords_380 : decode (rm_code mM_saysWords) 380 = .ok (.ldc2_w 463, 3) := by decide +kernel
theorem d_M_saysWords_383 : decode (rm_code mM_saysWords) 383 = .ok (.invokevirtual 411, 3) := by decide +kernel
theorem d_M_saysWords_386 : decode (rm_code mM_saysWords) 386 = .ok (.aload_n 0, 1) := by decide +kernel
theorem d_M_saysWords_387 : decode (rm_code mM_saysWords) 387 = .ok (.ldc2_w 465, 3) := by decide +kernel
theorem d_M_saysWords_390 : decode (rm_code mM_saysWords) 390 = .ok (.invokevirtual 411, 3) := by decide +kernel
theorem d_M_saysWords_393 : decode (rm_code mM_saysWords) 393 = .ok (.goto (85), 3) := by decide +kernel
theorem d_M_saysWords_396 : decode (rm_code mM_saysWords) 396 = .ok (.aload_n 0, 1) := by decide +kernel
theorem d_M_saysWords_397 : decode (rm_code mM_saysWords) 397 = .ok (.ldc2_w 467, 3) := by decide +kernel
theorem d_M_saysWords_400 : decode (rm_code mM_saysWords) 400 = .ok (.invokevirtual 411, 3) := by decide +kernel
theorem d_M_saysWords_403 : decode (rm_code mM_saysWords) 403 = .ok (.aload_n 0, 1) := by decide +kernel
theorem d_M_saysWords_404 : decode (rm_code mM_saysWords) 404 = .ok (.ldc2_w 469, 3) := by decide +kernel
theorem d_M_saysWords_407 : decode (rm_code mM_saysWords) 407 = .ok (.invokevirtual 411, 3) := by decide +kernel
theorem d_M_saysWords_410 : decode (rm_code mM_saysWords) 410 = .ok (.goto (68), 3) := by decide +kernel
theorem d_M_saysWords_413 : decode (rm_code mM_saysWords) 413 = .ok (.aload_n 0, 1) := by decide +kernel
theorem d_M_saysWords_414 : decode (rm_code mM_saysWords) 414 = .ok (.ldc2_w 471, 3) := by decide +kernel
theorem d_M_saysWords_417 : decode (rm_code mM_saysWords) 417 = .ok (.invokevirtual 411, 3) := by decide +kernel
theorem d_M_saysWords_420 : decode (rm_code mM_saysWords) 420 = .ok (.aload_n 0, 1) := by decide +kernel
theorem d_M_saysWords_421 : decode (rm_code mM_saysWords) 421 = .ok (.ldc2_w 473, 3) := by decide +kernel
theorem d_M_saysWords_424 : decode (rm_code mM_saysWords) 424 = .ok (.invokevirtual 411, 3) := by decide +kernel
theorem d_M_saysWords_427 : decode (rm_code mM_saysWords) 427 = .ok (.goto (51), 3) := by decide +kernel
theorem d_M_saysWords_430 : decode (rm_code mM_saysWords) 430 = .ok (.aload_n 0, 1) := by decide +kernel
theorem d_M_saysWords_431 : decode (rm_code mM_saysWords) 431 = .ok (.ldc2_w 475, 3) := by decide +kernel
theorem d_M_saysWords_434 : decode (rm_code mM_saysWords) 434 = .ok (.invokevirtual 411, 3) := by decide +kernel
theorem d_M_saysWords_437 : decode (rm_code mM_saysWords) 437 = .ok (.aload_n 0, 1) := by decide +kernel
theorem d_M_saysWords_438 : decode (rm_code mM_saysWords) 438 = .ok (.ldc2_w 477, 3) := by decide +kernel
theorem d_M_saysWords_441 : decode (rm_code mM_saysWords) 441 = .ok (.invokevirtual 411, 3) := by decide +kernel
theorem d_M_saysWords_444 : decode (rm_code mM_saysWords) 444 = .ok (.goto (34), 3) := by decide +kernel
theorem d_M_saysWords_447 : decode (rm_code mM_saysWords) 447 = .ok (.aload_n 0, 1) := by decide +kernel
theorem d_M_saysWords_448 : decode (rm_code mM_saysWords) 448 = .ok (.ldc2_w 479, 3) := by decide +kernel
theorem d_M_saysWords_451 : decode (rm_code mM_saysWords) 451 = .ok (.invokevirtual 411, 3) := by decide +kernel
theorem d_M_saysWords_454 : decode (rm_code mM_saysWords) 454 = .ok (.aload_n 0, 1) := by decide +kernel
theorem d_M_saysWords_455 : decode (rm_code mM_saysWords) 455 = .ok (.ldc2_w 481, 3) := by decide +kernel
theorem d_M_saysWords_458 : decode (rm_code mM_saysWords) 458 = .ok (.invokevirtual 411, 3) := by decide +kernel
theorem d_M_saysWords_461 : decode (rm_code mM_saysWords) 461 = .ok (.goto (17), 3) := by decide +kernel
theorem d_M_saysWords_464 : decode (rm_code mM_saysWords) 464 = .ok (.aload_n 0, 1) := by decide +kernel
theorem d_M_saysWords_465 : decode (rm_code mM_saysWords) 465 = .ok (.ldc2_w 483, 3) := by decide +kernel
theorem d_M_saysWords_468 : decode (rm_code mM_saysWords) 468 = .ok (.invokevirtual 411, 3) := by decide +kernel
theorem d_M_saysWords_471 : decode (rm_code mM_saysWords) 471 = .ok (.aload_n 0, 1) := by decide +kernel
theorem d_M_saysWords_472 : decode (rm_code mM_saysWords) 472 = .ok (.ldc2_w 485, 3) := by decide +kernel
theorem d_M_saysWords_475 : decode (rm_code mM_saysWords) 475 = .ok (.invokevirtual 411, 3) := by decide +kernel
theorem d_M_saysWords_478 : decode (rm_code mM_saysWords) 478 = .ok (.return_, 1) := by decide +kernel
theorem p_M_saysWords_0 {S : rz_S} {K : rz_S → Prop} {a1 : Int32} (w : ((a1 < 20 → rz mM_saysWords 27 [(0, .ref 116), (1, .int a1)] [] S (rz_v K)) ∧ (¬ a1 < 20 → ((24 < a1 → rz mM_saysWords 27 [(0, .ref 116), (1, .int a1)] [] S (rz_v K)) ∧ (¬ 24 < a1 → rz_ev mM_says8 [.ref 116, .long (5928216245358121554 : Int64)] S (rz_v (fun Sq3 => rz_ev mM_says8 [.ref 116, .long (20306 : Int64)] Sq3 (rz_v (fun Sq4 => K Sq4))))))))) : rz mM_saysWords 0 [(0, .ref 116), (1, .int a1)] [] S (rz_v K) := by
  refine rz_pure (pc' := 1) d_M_saysWords_0 rfl ?_
  refine rz_bipush (v := 20) d_M_saysWords_1 (by decide) ?_
  refine rz_icmplt (tgt := 27) d_M_saysWords_3 rfl (fun b1 => ?_) (fun b1 => ?_)
  · skip
    exact rz_pick (ks := [0, 1]) (l := [(0, .ref 116), (1, .int a1)]) rfl rfl (by decide) rfl (w.1 b1)
  · skip
    refine rz_pure (pc' := 7) d_M_saysWords_6 rfl ?_
    refine rz_bipush (v := 24) d_M_saysWords_7 (by decide) ?_
    refine rz_icmpgt (tgt := 27) d_M_saysWords_9 rfl (fun b2 => ?_) (fun b2 => ?_)
    · skip
      exact rz_pick (ks := [0, 1]) (l := [(0, .ref 116), (1, .int a1)]) rfl rfl (by decide) rfl ((w.2 b1).1 b2)
    · skip
      refine rz_pure (pc' := 13) d_M_saysWords_12 rfl ?_
      refine rz_ldcl (z := 5928216245358121554) d_M_saysWords_13 rfl ?_
      refine rz_callVv (t := [.long (5928216245358121554 : Int64)]) d_M_saysWords_16 w_12_411 rfl rfl rfl ((w.2 b1).2 b2) (fun Sq3 q3 => ?_)
      refine rz_pure (pc' := 20) d_M_saysWords_19 rfl ?_
      refine rz_ldcl (z := 20306) d_M_saysWords_20 rfl ?_
      refine rz_callVv (t := [.long (20306 : Int64)]) d_M_saysWords_23 w_12_411 rfl rfl rfl q3 (fun Sq4 q4 => ?_)
      exact rz_vretv d_M_saysWords_26 rfl q4
theorem p_M_saysWords_27 {S : rz_S} {K : rz_S → Prop} {a1 : Int32} (w : ((a1 < 30 → rz mM_saysWords 54 [(0, .ref 116), (1, .int a1)] [] S (rz_v K)) ∧ (¬ a1 < 30 → ((34 < a1 → rz mM_saysWords 54 [(0, .ref 116), (1, .int a1)] [] S (rz_v K)) ∧ (¬ 34 < a1 → rz_ev mM_says8 [.ref 116, .long (6005917701855780933 : Int64)] S (rz_v (fun Sq3 => rz_ev mM_says8 [.ref 116, .long (1381125970 : Int64)] Sq3 (rz_v (fun Sq4 => K Sq4))))))))) : rz mM_saysWords 27 [(0, .ref 116), (1, .int a1)] [] S (rz_v K) := by
  refine rz_pure (pc' := 28) d_M_saysWords_27 rfl ?_
  refine rz_bipush (v := 30) d_M_saysWords_28 (by decide) ?_
  refine rz_icmplt (tgt := 54) d_M_saysWords_30 rfl (fun b1 => ?_) (fun b1 => ?_)
  · skip
    exact rz_pick (ks := [0, 1]) (l := [(0, .ref 116), (1, .int a1)]) rfl rfl (by decide) rfl (w.1 b1)
  · skip
    refine rz_pure (pc' := 34) d_M_saysWords_33 rfl ?_
    refine rz_bipush (v := 34) d_M_saysWords_34 (by decide) ?_
    refine rz_icmpgt (tgt := 54) d_M_saysWords_36 rfl (fun b2 => ?_) (fun b2 => ?_)
    · skip
      exact rz_pick (ks := [0, 1]) (l := [(0, .ref 116), (1, .int a1)]) rfl rfl (by decide) rfl ((w.2 b1).1 b2)
    · skip
      refine rz_pure (pc' := 40) d_M_saysWords_39 rfl ?_
      refine rz_ldcl (z := 6005917701855780933) d_M_saysWords_40 rfl ?_
      refine rz_callVv (t := [.long (6005917701855780933 : Int64)]) d_M_saysWords_43 w_12_411 rfl rfl rfl ((w.2 b1).2 b2) (fun Sq3 q3 => ?_)
      refine rz_pure (pc' := 47) d_M_saysWords_46 rfl ?_
      refine rz_ldcl (z := 1381125970) d_M_saysWords_47 rfl ?_
      refine rz_callVv (t := [.long (1381125970 : Int64)]) d_M_saysWords_50 w_12_411 rfl rfl rfl q3 (fun Sq4 q4 => ?_)
      exact rz_vretv d_M_saysWords_53 rfl q4
theorem p_M_saysWords_54 {S : rz_S} {K : rz_S → Prop} {a1 : Int32} (w : ((a1 = 0 → rz_ev mM_says8 [.ref 116, .long (20299 : Int64)] S (rz_v (fun Sq2 => K Sq2))) ∧ (a1 = 1 → rz_ev mM_says8 [.ref 116, .long (5064663116585915203 : Int64)] S (rz_v (fun Sq4 => rz_ev mM_says8 [.ref 116, .long (23152778252141892 : Int64)] Sq4 (rz_v (fun Sq5 => K Sq5))))) ∧ (a1 = 25 → rz_ev mM_says8 [.ref 116, .long (6292172255675827538 : Int64)] S (rz_v (fun Sq7 => rz_ev mM_says8 [.ref 116, .long (5394258 : Int64)] Sq7 (rz_v (fun Sq8 => K Sq8))))) ∧ (a1 = 26 → rz_ev mM_says8 [.ref 116, .long (96010929194272 : Int64)] S (rz_v (fun Sq10 => rz_ev mM_says8 [.ref 116, .long (22608498806571860 : Int64)] Sq10 (rz_v (fun Sq11 => rz_ev mM_says8 [.ref 116, .long (2117454 : Int64)] Sq11 (rz_v (fun Sq12 => K Sq12))))))) ∧ (a1 = 28 → rz_ev mM_says8 [.ref 116, .long (5787775638865792288 : Int64)] S (rz_v (fun Sq14 => rz_ev mM_says8 [.ref 116, .long (297733869394 : Int64)] Sq14 (rz_v (fun Sq15 => K Sq15))))) ∧ (a1 = 60 → rz_ev mM_says8 [.ref 116, .long (5064663115733356613 : Int64)] S (rz_v (fun Sq17 => rz_ev mM_says8 [.ref 116, .long (78 : Int64)] Sq17 (rz_v (fun Sq18 => K Sq18))))) ∧ (a1 = 61 → rz_ev mM_says8 [.ref 116, .long (5064663115733290836 : Int64)] S (rz_v (fun Sq20 => rz_ev mM_says8 [.ref 116, .long (138769614158 : Int64)] Sq20 (rz_v (fun Sq21 => K Sq21))))) ∧ (a1 = 62 → rz_ev mM_says8 [.ref 116, .long (5064663115733290836 : Int64)] S (rz_v (fun Sq23 => rz_ev mM_says8 [.ref 116, .long (35486350790212 : Int64)] Sq23 (rz_v (fun Sq24 => K Sq24))))) ∧ (a1 = 63 → rz_ev mM_says8 [.ref 116, .long (5064663115732703305 : Int64)] S (rz_v (fun Sq26 => rz_ev mM_says8 [.ref 116, .long (5461075 : Int64)] Sq26 (rz_v (fun Sq27 => K Sq27))))) ∧ (a1 = 64 → rz_ev mM_says8 [.ref 116, .long (5064663115733686608 : Int64)] S (rz_v (fun Sq29 => rz_ev mM_says8 [.ref 116, .long (4981066165197291860 : Int64)] Sq29 (rz_v (fun Sq30 => rz_ev mM_says8 [.ref 116, .long (17224 : Int64)] Sq30 (rz_v (fun Sq31 => K Sq31))))))) ∧ (a1 = 65 → rz_ev mM_says8 [.ref 116, .long (5642764327238714187 : Int64)] S (rz_v (fun Sq33 => K Sq33))) ∧ (a1 = 66 → rz_ev mM_says8 [.ref 116, .long (5281680323430665248 : Int64)] S (rz_v (fun Sq35 => rz_ev mM_says8 [.ref 116, .long (284748104523 : Int64)] Sq35 (rz_v (fun Sq36 => K Sq36))))) ∧ (a1 = 70 → rz_ev mM_says8 [.ref 116, .long (5642764331465657934 : Int64)] S (rz_v (fun Sq38 => rz_ev mM_says8 [.ref 116, .long (17740 : Int64)] Sq38 (rz_v (fun Sq39 => K Sq39))))) ∧ (a1 = 71 → rz_ev mM_says8 [.ref 116, .long (4920554366434431567 : Int64)] S (rz_v (fun Sq41 => rz_ev mM_says8 [.ref 116, .long (82 : Int64)] Sq41 (rz_v (fun Sq42 => K Sq42))))) ∧ (a1 = 72 → rz_ev mM_says8 [.ref 116, .long (4920555650008110412 : Int64)] S (rz_v (fun Sq44 => rz_ev mM_says8 [.ref 116, .long (76 : Int64)] Sq44 (rz_v (fun Sq45 => K Sq45))))) ∧ (a1 = 73 → rz_ev mM_says8 [.ref 116, .long (5929356451800960851 : Int64)] S (rz_v (fun Sq47 => rz_ev mM_says8 [.ref 116, .long (8241 : Int64)] Sq47 (rz_v (fun Sq48 => K Sq48))))) ∧ (¬ a1 = 0 → ¬ a1 = 1 → ¬ a1 = 25 → ¬ a1 = 26 → ¬ a1 = 28 → ¬ a1 = 60 → ¬ a1 = 61 → ¬ a1 = 62 → ¬ a1 = 63 → ¬ a1 = 64 → ¬ a1 = 65 → ¬ a1 = 66 → ¬ a1 = 70 → ¬ a1 = 71 → ¬ a1 = 72 → ¬ a1 = 73 → rz_ev mM_says8 [.ref 116, .long (4923077977545133647 : Int64)] S (rz_v (fun Sq49 => rz_ev mM_says8 [.ref 116, .long (23679435765007449 : Int64)] Sq49 (rz_v (fun Sq50 => K Sq50))))))) : rz mM_saysWords 54 [(0, .ref 116), (1, .int a1)] [] S (rz_v K) := by
  refine rz_pure (pc' := 55) d_M_saysWords_54 rfl ?_
  by_cases b1 : a1 = 0
  · refine rz_lsj (v := 0) (tgt := 192) d_M_saysWords_55 b1 rfl ?_
    refine rz_pure (pc' := 193) d_M_saysWords_192 rfl ?_
    refine rz_ldcl (z := 20299) d_M_saysWords_193 rfl ?_
    refine rz_callVv (t := [.long (20299 : Int64)]) d_M_saysWords_196 w_12_411 rfl rfl rfl (w.1 b1) (fun Sq2 q2 => ?_)
    refine rz_pure (pc' := 478) d_M_saysWords_199 rfl ?_
    exact rz_vretv d_M_saysWords_478 rfl q2
  by_cases b3 : a1 = 1
  · refine rz_lsj (v := 1) (tgt := 202) d_M_saysWords_55 b3 rfl ?_
    refine rz_pure (pc' := 203) d_M_saysWords_202 rfl ?_
    refine rz_ldcl (z := 5064663116585915203) d_M_saysWords_203 rfl ?_
    refine rz_callVv (t := [.long (5064663116585915203 : Int64)]) d_M_saysWords_206 w_12_411 rfl rfl rfl (w.2.1 b3) (fun Sq4 q4 => ?_)
    refine rz_pure (pc' := 210) d_M_saysWords_209 rfl ?_
    refine rz_ldcl (z := 23152778252141892) d_M_saysWords_210 rfl ?_
    refine rz_callVv (t := [.long (23152778252141892 : Int64)]) d_M_saysWords_213 w_12_411 rfl rfl rfl q4 (fun Sq5 q5 => ?_)
    refine rz_pure (pc' := 478) d_M_saysWords_216 rfl ?_
    exact rz_vretv d_M_saysWords_478 rfl q5
  by_cases b6 : a1 = 25
  · refine rz_lsj (v := 25) (tgt := 219) d_M_saysWords_55 b6 rfl ?_
    refine rz_pure (pc' := 220) d_M_saysWords_219 rfl ?_
    refine rz_ldcl (z := 6292172255675827538) d_M_saysWords_220 rfl ?_
    refine rz_callVv (t := [.long (6292172255675827538 : Int64)]) d_M_saysWords_223 w_12_411 rfl rfl rfl (w.2.2.1 b6) (fun Sq7 q7 => ?_)
    refine rz_pure (pc' := 227) d_M_saysWords_226 rfl ?_
    refine rz_ldcl (z := 5394258) d_M_saysWords_227 rfl ?_
    refine rz_callVv (t := [.long (5394258 : Int64)]) d_M_saysWords_230 w_12_411 rfl rfl rfl q7 (fun Sq8 q8 => ?_)
    refine rz_pure (pc' := 478) d_M_saysWords_233 rfl ?_
    exact rz_vretv d_M_saysWords_478 rfl q8
  by_cases b9 : a1 = 26
  · refine rz_lsj (v := 26) (tgt := 236) d_M_saysWords_55 b9 rfl ?_
    refine rz_pure (pc' := 237) d_M_saysWords_236 rfl ?_
    refine rz_ldcl (z := 96010929194272) d_M_saysWords_237 rfl ?_
    refine rz_callVv (t := [.long (96010929194272 : Int64)]) d_M_saysWords_240 w_12_411 rfl rfl rfl (w.2.2.2.1 b9) (fun Sq10 q10 => ?_)
    refine rz_pure (pc' := 244) d_M_saysWords_243 rfl ?_
    refine rz_ldcl (z := 22608498806571860) d_M_saysWords_244 rfl ?_
    refine rz_callVv (t := [.long (22608498806571860 : Int64)]) d_M_saysWords_247 w_12_411 rfl rfl rfl q10 (fun Sq11 q11 => ?_)
    refine rz_pure (pc' := 251) d_M_saysWords_250 rfl ?_
    refine rz_ldcl (z := 2117454) d_M_saysWords_251 rfl ?_
    refine rz_callVv (t := [.long (2117454 : Int64)]) d_M_saysWords_254 w_12_411 rfl rfl rfl q11 (fun Sq12 q12 => ?_)
    refine rz_pure (pc' := 478) d_M_saysWords_257 rfl ?_
    exact rz_vretv d_M_saysWords_478 rfl q12
  by_cases b13 : a1 = 28
  · refine rz_lsj (v := 28) (tgt := 260) d_M_saysWords_55 b13 rfl ?_
    refine rz_pure (pc' := 261) d_M_saysWords_260 rfl ?_
    refine rz_ldcl (z := 5787775638865792288) d_M_saysWords_261 rfl ?_
    refine rz_callVv (t := [.long (5787775638865792288 : Int64)]) d_M_saysWords_264 w_12_411 rfl rfl rfl (w.2.2.2.2.1 b13) (fun Sq14 q14 => ?_)
    refine rz_pure (pc' := 268) d_M_saysWords_267 rfl ?_
    refine rz_ldcl (z := 297733869394) d_M_saysWords_268 rfl ?_
    refine rz_callVv (t := [.long (297733869394 : Int64)]) d_M_saysWords_271 w_12_411 rfl rfl rfl q14 (fun Sq15 q15 => ?_)
    refine rz_pure (pc' := 478) d_M_saysWords_274 rfl ?_
    exact rz_vretv d_M_saysWords_478 rfl q15
  by_cases b16 : a1 = 60
  · refine rz_lsj (v := 60) (tgt := 277) d_M_saysWords_55 b16 rfl ?_
    refine rz_pure (pc' := 278) d_M_saysWords_277 rfl ?_
    refine rz_ldcl (z := 5064663115733356613) d_M_saysWords_278 rfl ?_
    refine rz_callVv (t := [.long (5064663115733356613 : Int64)]) d_M_saysWords_281 w_12_411 rfl rfl rfl (w.2.2.2.2.2.1 b16) (fun Sq17 q17 => ?_)
    refine rz_pure (pc' := 285) d_M_saysWords_284 rfl ?_
    refine rz_ldcl (z := 78) d_M_saysWords_285 rfl ?_
    refine rz_callVv (t := [.long (78 : Int64)]) d_M_saysWords_288 w_12_411 rfl rfl rfl q17 (fun Sq18 q18 => ?_)
    refine rz_pure (pc' := 478) d_M_saysWords_291 rfl ?_
    exact rz_vretv d_M_saysWords_478 rfl q18
  by_cases b19 : a1 = 61
  · refine rz_lsj (v := 61) (tgt := 294) d_M_saysWords_55 b19 rfl ?_
    refine rz_pure (pc' := 295) d_M_saysWords_294 rfl ?_
    refine rz_ldcl (z := 5064663115733290836) d_M_saysWords_295 rfl ?_
    refine rz_callVv (t := [.long (5064663115733290836 : Int64)]) d_M_saysWords_298 w_12_411 rfl rfl rfl (w.2.2.2.2.2.2.1 b19) (fun Sq20 q20 => ?_)
    refine rz_pure (pc' := 302) d_M_saysWords_301 rfl ?_
    refine rz_ldcl (z := 138769614158) d_M_saysWords_302 rfl ?_
    refine rz_callVv (t := [.long (138769614158 : Int64)]) d_M_saysWords_305 w_12_411 rfl rfl rfl q20 (fun Sq21 q21 => ?_)
    refine rz_pure (pc' := 478) d_M_saysWords_308 rfl ?_
    exact rz_vretv d_M_saysWords_478 rfl q21
  by_cases b22 : a1 = 62
  · refine rz_lsj (v := 62) (tgt := 311) d_M_saysWords_55 b22 rfl ?_
    refine rz_pure (pc' := 312) d_M_saysWords_311 rfl ?_
    refine rz_ldcl (z := 5064663115733290836) d_M_saysWords_312 rfl ?_
    refine rz_callVv (t := [.long (5064663115733290836 : Int64)]) d_M_saysWords_315 w_12_411 rfl rfl rfl (w.2.2.2.2.2.2.2.1 b22) (fun Sq23 q23 => ?_)
    refine rz_pure (pc' := 319) d_M_saysWords_318 rfl ?_
    refine rz_ldcl (z := 35486350790212) d_M_saysWords_319 rfl ?_
    refine rz_callVv (t := [.long (35486350790212 : Int64)]) d_M_saysWords_322 w_12_411 rfl rfl rfl q23 (fun Sq24 q24 => ?_)
    refine rz_pure (pc' := 478) d_M_saysWords_325 rfl ?_
    exact rz_vretv d_M_saysWords_478 rfl q24
  by_cases b25 : a1 = 63
  · refine rz_lsj (v := 63) (tgt := 328) d_M_saysWords_55 b25 rfl ?_
    refine rz_pure (pc' := 329) d_M_saysWords_328 rfl ?_
    refine rz_ldcl (z := 5064663115732703305) d_M_saysWords_329 rfl ?_
    refine rz_callVv (t := [.long (5064663115732703305 : Int64)]) d_M_saysWords_332 w_12_411 rfl rfl rfl (w.2.2.2.2.2.2.2.2.1 b25) (fun Sq26 q26 => ?_)
    refine rz_pure (pc' := 336) d_M_saysWords_335 rfl ?_
    refine rz_ldcl (z := 5461075) d_M_saysWords_336 rfl ?_
    refine rz_callVv (t := [.long (5461075 : Int64)]) d_M_saysWords_339 w_12_411 rfl rfl rfl q26 (fun Sq27 q27 => ?_)
    refine rz_pure (pc' := 478) d_M_saysWords_342 rfl ?_
    exact rz_vretv d_M_saysWords_478 rfl q27
  by_cases b28 : a1 = 64
  · refine rz_lsj (v := 64) (tgt := 345) d_M_saysWords_55 b28 rfl ?_
    refine rz_pure (pc' := 346) d_M_saysWords_345 rfl ?_
    refine rz_ldcl (z := 5064663115733686608) d_M_saysWords_346 rfl ?_
    refine rz_callVv (t := [.long (5064663115733686608 : Int64)]) d_M_saysWords_349 w_12_411 rfl rfl rfl (w.2.2.2.2.2.2.2.2.2.1 b28) (fun Sq29 q29 => ?_)
    refine rz_pure (pc' := 353) d_M_saysWords_352 rfl ?_
    refine rz_ldcl (z := 4981066165197291860) d_M_saysWords_353 rfl ?_
    refine rz_callVv (t := [.long (4981066165197291860 : Int64)]) d_M_saysWords_356 w_12_411 rfl rfl rfl q29 (fun Sq30 q30 => ?_)
    refine rz_pure (pc' := 360) d_M_saysWords_359 rfl ?_
    refine rz_ldcl (z := 17224) d_M_saysWords_360 rfl ?_
    refine rz_callVv (t := [.long (17224 : Int64)]) d_M_saysWords_363 w_12_411 rfl rfl rfl q30 (fun Sq31 q31 => ?_)
    refine rz_pure (pc' := 478) d_M_saysWords_366 rfl ?_
    exact rz_vretv d_M_saysWords_478 rfl q31
  by_cases b32 : a1 = 65
  · refine rz_lsj (v := 65) (tgt := 369) d_M_saysWords_55 b32 rfl ?_
    refine rz_pure (pc' := 370) d_M_saysWords_369 rfl ?_
    refine rz_ldcl (z := 5642764327238714187) d_M_saysWords_370 rfl ?_
    refine rz_callVv (t := [.long (5642764327238714187 : Int64)]) d_M_saysWords_373 w_12_411 rfl rfl rfl (w.2.2.2.2.2.2.2.2.2.2.1 b32) (fun Sq33 q33 => ?_)
    refine rz_pure (pc' := 478) d_M_saysWords_376 rfl ?_
    exact rz_vretv d_M_saysWords_478 rfl q33
  by_cases b34 : a1 = 66
  · refine rz_lsj (v := 66) (tgt := 379) d_M_saysWords_55 b34 rfl ?_
    refine rz_pure (pc' := 380) d_M_saysWords_379 rfl ?_
    refine rz_ldcl (z := 5281680323430665248) d_M_saysWords_380 rfl ?_
    refine rz_callVv (t := [.long (5281680323430665248 : Int64)]) d_M_saysWords_383 w_12_411 rfl rfl rfl (w.2.2.2.2.2.2.2.2.2.2.2.1 b34) (fun Sq35 q35 => ?_)
    refine rz_pure (pc' := 387) d_M_saysWords_386 rfl ?_
    refine rz_ldcl (z := 284748104523) d_M_saysWords_387 rfl ?_
    refine rz_callVv (t := [.long (284748104523 : Int64)]) d_M_saysWords_390 w_12_411 rfl rfl rfl q35 (fun Sq36 q36 => ?_)
    refine rz_pure (pc' := 478) d_M_saysWords_393 rfl ?_
    exact rz_vretv d_M_saysWords_478 rfl q36
  by_cases b37 : a1 = 70
  · refine rz_lsj (v := 70) (tgt := 396) d_M_saysWords_55 b37 rfl ?_
    refine rz_pure (pc' := 397) d_M_saysWords_396 rfl ?_
    refine rz_ldcl (z := 5642764331465657934) d_M_saysWords_397 rfl ?_
    refine rz_callVv (t := [.long (5642764331465657934 : Int64)]) d_M_saysWords_400 w_12_411 rfl rfl rfl (w.2.2.2.2.2.2.2.2.2.2.2.2.1 b37) (fun Sq38 q38 => ?_)
    refine rz_pure (pc' := 404) d_M_saysWords_403 rfl ?_
    refine rz_ldcl (z := 17740) d_M_saysWords_404 rfl ?_
    refine rz_callVv (t := [.long (17740 : Int64)]) d_M_saysWords_407 w_12_411 rfl rfl rfl q38 (fun Sq39 q39 => ?_)
    refine rz_pure (pc' := 478) d_M_saysWords_410 rfl ?_
    exact rz_vretv d_M_saysWords_478 rfl q39
  by_cases b40 : a1 = 71
  · refine rz_lsj (v := 71) (tgt := 413) d_M_saysWords_55 b40 rfl ?_
    refine rz_pure (pc' := 414) d_M_saysWords_413 rfl ?_
    refine rz_ldcl (z := 4920554366434431567) d_M_saysWords_414 rfl ?_
    refine rz_callVv (t := [.long (4920554366434431567 : Int64)]) d_M_saysWords_417 w_12_411 rfl rfl rfl (w.2.2.2.2.2.2.2.2.2.2.2.2.2.1 b40) (fun Sq41 q41 => ?_)
    refine rz_pure (pc' := 421) d_M_saysWords_420 rfl ?_
    refine rz_ldcl (z := 82) d_M_saysWords_421 rfl ?_
    refine rz_callVv (t := [.long (82 : Int64)]) d_M_saysWords_424 w_12_411 rfl rfl rfl q41 (fun Sq42 q42 => ?_)
    refine rz_pure (pc' := 478) d_M_saysWords_427 rfl ?_
    exact rz_vretv d_M_saysWords_478 rfl q42
  by_cases b43 : a1 = 72
  · refine rz_lsj (v := 72) (tgt := 430) d_M_saysWords_55 b43 rfl ?_
    refine rz_pure (pc' := 431) d_M_saysWords_430 rfl ?_
    refine rz_ldcl (z := 4920555650008110412) d_M_saysWords_431 rfl ?_
    refine rz_callVv (t := [.long (4920555650008110412 : Int64)]) d_M_saysWords_434 w_12_411 rfl rfl rfl (w.2.2.2.2.2.2.2.2.2.2.2.2.2.2.1 b43) (fun Sq44 q44 => ?_)
    refine rz_pure (pc' := 438) d_M_saysWords_437 rfl ?_
    refine rz_ldcl (z := 76) d_M_saysWords_438 rfl ?_
    refine rz_callVv (t := [.long (76 : Int64)]) d_M_saysWords_441 w_12_411 rfl rfl rfl q44 (fun Sq45 q45 => ?_)
    refine rz_pure (pc' := 478) d_M_saysWords_444 rfl ?_
    exact rz_vretv d_M_saysWords_478 rfl q45
  by_cases b46 : a1 = 73
  · refine rz_lsj (v := 73) (tgt := 447) d_M_saysWords_55 b46 rfl ?_
    refine rz_pure (pc' := 448) d_M_saysWords_447 rfl ?_
    refine rz_ldcl (z := 5929356451800960851) d_M_saysWords_448 rfl ?_
    refine rz_callVv (t := [.long (5929356451800960851 : Int64)]) d_M_saysWords_451 w_12_411 rfl rfl rfl (w.2.2.2.2.2.2.2.2.2.2.2.2.2.2.2.1 b46) (fun Sq47 q47 => ?_)
    refine rz_pure (pc' := 455) d_M_saysWords_454 rfl ?_
    refine rz_ldcl (z := 8241) d_M_saysWords_455 rfl ?_
    refine rz_callVv (t := [.long (8241 : Int64)]) d_M_saysWords_458 w_12_411 rfl rfl rfl q47 (fun Sq48 q48 => ?_)
    refine rz_pure (pc' := 478) d_M_saysWords_461 rfl ?_
    exact rz_vretv d_M_saysWords_478 rfl q48
  refine rz_lsd (tgt := 464) d_M_saysWords_55 rfl ⟨b1, b3, b6, b9, b13, b16, b19, b22, b25, b28, b32, b34, b37, b40, b43, b46, trivial⟩ rfl ?_
  refine rz_pure (pc' := 465) d_M_saysWords_464 rfl ?_
  refine rz_ldcl (z := 4923077977545133647) d_M_saysWords_465 rfl ?_
  refine rz_callVv (t := [.long (4923077977545133647 : Int64)]) d_M_saysWords_468 w_12_411 rfl rfl rfl (w.2.2.2.2.2.2.2.2.2.2.2.2.2.2.2.2 b1 b3 b6 b9 b13 b16 b19 b22 b25 b28 b32 b34 b37 b40 b43 b46) (fun Sq49 q49 => ?_)
  refine rz_pure (pc' := 472) d_M_saysWords_471 rfl ?_
  refine rz_ldcl (z := 23679435765007449) d_M_saysWords_472 rfl ?_
  refine rz_callVv (t := [.long (23679435765007449 : Int64)]) d_M_saysWords_475 w_12_411 rfl rfl rfl q49 (fun Sq50 q50 => ?_)
  exact rz_vretv d_M_saysWords_478 rfl q50
theorem d_M_givesStatus_0 : decode (rm_code mM_givesStatus) 0 = .ok (.aload_n 0, 1) := by decide +kernel
theorem d_M_givesStatus_1 : decode (rm_code mM_givesStatus) 1 = .ok (.iconst 0, 1) := by decide +kernel
theorem d_M_givesStatus_2 : decode (rm_code mM_givesStatus) 2 = .ok (.putfield 401, 3) := by decide +kernel
theorem d_M_givesStatus_5 : decode (rm_code mM_givesStatus) 5 = .ok (.aload_n 0, 1) := by decide +kernel
theorem d_M_givesStatus_6 : decode (rm_code mM_givesStatus) 6 = .ok (.aload_n 0, 1) := by decide +kernel
theorem d_M_givesStatus_7 : decode (rm_code mM_givesStatus) 7 = .ok (.getfield 227, 3) := by decide +kernel
theorem d_M_givesStatus_10 : decode (rm_code mM_givesStatus) 10 = .ok (.invokevirtual 487, 3) := by decide +kernel
theorem d_M_givesStatus_13 : decode (rm_code mM_givesStatus) 13 = .ok (.aload_n 0, 1) := by decide +kernel
theorem d_M_givesStatus_14 : decode (rm_code mM_givesStatus) 14 = .ok (.bipush (44), 2) := by decide +kernel
theorem d_M_givesStatus_16 : decode (rm_code mM_givesStatus) 16 = .ok (.invokevirtual 406, 3) := by decide +kernel
theorem d_M_givesStatus_19 : decode (rm_code mM_givesStatus) 19 = .ok (.aload_n 0, 1) := by decide +kernel
theorem d_M_givesStatus_20 : decode (rm_code mM_givesStatus) 20 = .ok (.aload_n 0, 1) := by decide +kernel
theorem d_M_givesStatus_21 : decode (rm_code mM_givesStatus) 21 = .ok (.getfield 227, 3) := by decide +kernel
theorem d_M_givesStatus_24 : decode (rm_code mM_givesStatus) 24 = .ok (.invokevirtual 490, 3) := by decide +kernel
theorem d_M_givesStatus_27 : decode (rm_code mM_givesStatus) 27 = .ok (.aload_n 0, 1) := by decide +kernel
theorem d_M_givesStatus_28 : decode (rm_code mM_givesStatus) 28 = .ok (.bipush (44), 2) := by decide +kernel
theorem d_M_givesStatus_30 : decode (rm_code mM_givesStatus) 30 = .ok (.invokevirtual 406, 3) := by decide +kernel
theorem d_M_givesStatus_33 : decode (rm_code mM_givesStatus) 33 = .ok (.aload_n 0, 1) := by decide +kernel
theorem d_M_givesStatus_34 : decode (rm_code mM_givesStatus) 34 = .ok (.aload_n 0, 1) := by decide +kernel
theorem d_M_givesStatus_35 : decode (rm_code mM_givesStatus) 35 = .ok (.getfield 230, 3) := by decide +kernel
theorem d_M_givesStatus_38 : decode (rm_code mM_givesStatus) 38 = .ok (.invokevirtual 487, 3) := by decide +kernel
theorem d_M_givesStatus_41 : decode (rm_code mM_givesStatus) 41 = .ok (.aload_n 0, 1) := by decide +kernel
theorem d_M_givesStatus_42 : decode (rm_code mM_givesStatus) 42 = .ok (.bipush (44), 2) := by decide +kernel
theorem d_M_givesStatus_44 : decode (rm_code mM_givesStatus) 44 = .ok (.invokevirtual 406, 3) := by decide +kernel
theorem d_M_givesStatus_47 : decode (rm_code mM_givesStatus) 47 = .ok (.aload_n 0, 1) := by decide +kernel
theorem d_M_givesStatus_48 : decode (rm_code mM_givesStatus) 48 = .ok (.aload_n 0, 1) := by decide +kernel
theorem d_M_givesStatus_49 : decode (rm_code mM_givesStatus) 49 = .ok (.getfield 233, 3) := by decide +kernel
theorem d_M_givesStatus_52 : decode (rm_code mM_givesStatus) 52 = .ok (.invokevirtual 487, 3) := by decide +kernel
theorem d_M_givesStatus_55 : decode (rm_code mM_givesStatus) 55 = .ok (.aload_n 0, 1) := by decide +kernel
theorem d_M_givesStatus_56 : decode (rm_code mM_givesStatus) 56 = .ok (.bipush (13), 2) := by decide +kernel
theorem d_M_givesStatus_58 : decode (rm_code mM_givesStatus) 58 = .ok (.invokevirtual 406, 3) := by decide +kernel
theorem d_M_givesStatus_61 : decode (rm_code mM_givesStatus) 61 = .ok (.aload_n 0, 1) := by decide +kernel
theorem d_M_givesStatus_62 : decode (rm_code mM_givesStatus) 62 = .ok (.getfield 371, 3) := by decide +kernel
theorem d_M_givesStatus_65 : decode (rm_code mM_givesStatus) 65 = .ok (.iload_n 1, 1) := by decide +kernel
theorem d_M_givesStatus_66 : decode (rm_code mM_givesStatus) 66 = .ok (.if_icmp .ge (40), 3) := by decide +kernel
theorem d_M_givesStatus_69 : decode (rm_code mM_givesStatus) 69 = .ok (.aload_n 0, 1) := by decide +kernel
theorem d_M_givesStatus_70 : decode (rm_code mM_givesStatus) 70 = .ok (.getfield 236, 3) := by decide +kernel
theorem d_M_givesStatus_73 : decode (rm_code mM_givesStatus) 73 = .ok (.aload_n 0, 1) := by decide +kernel
theorem d_M_givesStatus_74 : decode (rm_code mM_givesStatus) 74 = .ok (.getfield 401, 3) := by decide +kernel
theorem d_M_givesStatus_77 : decode (rm_code mM_givesStatus) 77 = .ok (.if_icmp .ge (29), 3) := by decide +kernel
theorem d_M_givesStatus_80 : decode (rm_code mM_givesStatus) 80 = .ok (.aload_n 0, 1) := by decide +kernel
theorem d_M_givesStatus_81 : decode (rm_code mM_givesStatus) 81 = .ok (.aload_n 0, 1) := by decide +kernel
theorem d_M_givesStatus_82 : decode (rm_code mM_givesStatus) 82 = .ok (.getfield 398, 3) := by decide +kernel
theorem d_M_givesStatus_85 : decode (rm_code mM_givesStatus) 85 = .ok (.aload_n 0, 1) := by decide +kernel
theorem d_M_givesStatus_86 : decode (rm_code mM_givesStatus) 86 = .ok (.getfield 236, 3) := by decide +kernel
theorem d_M_givesStatus_89 : decode (rm_code mM_givesStatus) 89 = .ok (.iaload, 1) := by decide +kernel
theorem d_M_givesStatus_90 : decode (rm_code mM_givesStatus) 90 = .ok (.invokevirtual 395, 3) := by decide +kernel
theorem d_M_givesStatus_93 : decode (rm_code mM_givesStatus) 93 = .ok (.aload_n 0, 1) := by decide +kernel
theorem d_M_givesStatus_94 : decode (rm_code mM_givesStatus) 94 = .ok (.aload_n 0, 1) := by decide +kernel
theorem d_M_givesStatus_95 : decode (rm_code mM_givesStatus) 95 = .ok (.getfield 236, 3) := by decide +kernel
theorem d_M_givesStatus_98 : decode (rm_code mM_givesStatus) 98 = .ok (.iconst 1, 1) := by decide +kernel
theorem d_M_givesStatus_99 : decode (rm_code mM_givesStatus) 99 = .ok (.iadd, 1) := by decide +kernel
theorem d_M_givesStatus_100 : decode (rm_code mM_givesStatus) 100 = .ok (.putfield 236, 3) := by decide +kernel
theorem d_M_givesStatus_103 : decode (rm_code mM_givesStatus) 103 = .ok (.goto (-42), 3) := by decide +kernel
theorem d_M_givesStatus_106 : decode (rm_code mM_givesStatus) 106 = .ok (.aload_n 0, 1) := by decide +kernel
theorem d_M_givesStatus_107 : decode (rm_code mM_givesStatus) 107 = .ok (.getfield 236, 3) := by decide +kernel
theorem d_M_givesStatus_110 : decode (rm_code mM_givesStatus) 110 = .ok (.aload_n 0, 1) := by decide +kernel
theorem d_M_givesStatus_111 : decode (rm_code mM_givesStatus) 111 = .ok (.getfield 401, 3) := by decide +kernel
theorem d_M_givesStatus_114 : decode (rm_code mM_givesStatus) 114 = .ok (.if_icmp .ne (15), 3) := by decide +kernel
theorem d_M_givesStatus_117 : decode (rm_code mM_givesStatus) 117 = .ok (.aload_n 0, 1) := by decide +kernel
theorem d_M_givesStatus_118 : decode (rm_code mM_givesStatus) 118 = .ok (.iconst 1, 1) := by decide +kernel
theorem d_M_givesStatus_119 : decode (rm_code mM_givesStatus) 119 = .ok (.putfield 374, 3) := by decide +kernel
theorem d_M_givesStatus_122 : decode (rm_code mM_givesStatus) 122 = .ok (.aload_n 0, 1) := by decide +kernel
theorem d_M_givesStatus_123 : decode (rm_code mM_givesStatus) 123 = .ok (.iconst 0, 1) := by decide +kernel
theorem d_M_givesStatus_124 : decode (rm_code mM_givesStatus) 124 = .ok (.iconst 0, 1) := by decide +kernel
theorem d_M_givesStatus_125 : decode (rm_code mM_givesStatus) 125 = .ok (.iconst 0, 1) := by decide +kernel
theorem d_M_givesStatus_126 : decode (rm_code mM_givesStatus) 126 = .ok (.invokevirtual 239, 3) := by decide +kernel
theorem d_M_givesStatus_129 : decode (rm_code mM_givesStatus) 129 = .ok (.return_, 1) := by decide +kernel
theorem p_M_givesStatus_0 {S : rz_S} {K : rz_S → Prop} {a1 : Int32} (w : rz_ev mM_saysTwo [.ref 116, .int (S.2 116 56)] (rz_uI S 116 70 0) (rz_v (fun Sq1 => rz_ev mM_says [.ref 116, .int 44] Sq1 (rz_v (fun Sq2 => rz_ev mM_saysWords [.ref 116, .int (Sq2.2 116 56)] Sq2 (rz_v (fun Sq3 => rz_ev mM_says [.ref 116, .int 44] Sq3 (rz_v (fun Sq4 => rz_ev mM_saysTwo [.ref 116, .int (Sq4.2 116 57)] Sq4 (rz_v (fun Sq5 => rz_ev mM_says [.ref 116, .int 44] Sq5 (rz_v (fun Sq6 => rz_ev mM_saysTwo [.ref 116, .int (Sq6.2 116 58)] Sq6 (rz_v (fun Sq7 => rz_ev mM_says [.ref 116, .int 13] Sq7 (rz_v (fun Sq8 => rz mM_givesStatus 61 [(0, .ref 116), (1, .int a1)] [] Sq8 (rz_v K)))))))))))))))))) : rz mM_givesStatus 0 [(0, .ref 116), (1, .int a1)] [] S (rz_v K) := by
  refine rz_pure (pc' := 1) d_M_givesStatus_0 rfl ?_
  refine rz_iconst (v := 0) d_M_givesStatus_1 (by decide) ?_
  refine rz_puti d_M_givesStatus_2 f_12_401 rfl rfl rfl ?_
  refine rz_pure (pc' := 6) d_M_givesStatus_5 rfl ?_
  refine rz_pure (pc' := 7) d_M_givesStatus_6 rfl ?_
  refine rz_getiv (v := S.2 116 56) d_M_givesStatus_7 f_12_227 rfl rfl ((rz_uI_n (fun h => absurd h.2 (by decide))).trans rfl) ?_
  refine rz_callVv (t := [.int (S.2 116 56)]) d_M_givesStatus_10 w_12_487 rfl rfl rfl w (fun Sq1 q1 => ?_)
  refine rz_pure (pc' := 14) d_M_givesStatus_13 rfl ?_
  refine rz_bipush (v := 44) d_M_givesStatus_14 (by decide) ?_
  refine rz_callVv (t := [.int 44]) d_M_givesStatus_16 w_12_406 rfl rfl rfl q1 (fun Sq2 q2 => ?_)
  refine rz_pure (pc' := 20) d_M_givesStatus_19 rfl ?_
  refine rz_pure (pc' := 21) d_M_givesStatus_20 rfl ?_
  refine rz_getiv (v := Sq2.2 116 56) d_M_givesStatus_21 f_12_227 rfl rfl rfl ?_
  refine rz_callVv (t := [.int (Sq2.2 116 56)]) d_M_givesStatus_24 w_12_490 rfl rfl rfl q2 (fun Sq3 q3 => ?_)
  refine rz_pure (pc' := 28) d_M_givesStatus_27 rfl ?_
  refine rz_bipush (v := 44) d_M_givesStatus_28 (by decide) ?_
  refine rz_callVv (t := [.int 44]) d_M_givesStatus_30 w_12_406 rfl rfl rfl q3 (fun Sq4 q4 => ?_)
  refine rz_pure (pc' := 34) d_M_givesStatus_33 rfl ?_
  refine rz_pure (pc' := 35) d_M_givesStatus_34 rfl ?_
  refine rz_getiv (v := Sq4.2 116 57) d_M_givesStatus_35 f_12_230 rfl rfl rfl ?_
  refine rz_callVv (t := [.int (Sq4.2 116 57)]) d_M_givesStatus_38 w_12_487 rfl rfl rfl q4 (fun Sq5 q5 => ?_)
  refine rz_pure (pc' := 42) d_M_givesStatus_41 rfl ?_
  refine rz_bipush (v := 44) d_M_givesStatus_42 (by decide) ?_
  refine rz_callVv (t := [.int 44]) d_M_givesStatus_44 w_12_406 rfl rfl rfl q5 (fun Sq6 q6 => ?_)
  refine rz_pure (pc' := 48) d_M_givesStatus_47 rfl ?_
  refine rz_pure (pc' := 49) d_M_givesStatus_48 rfl ?_
  refine rz_getiv (v := Sq6.2 116 58) d_M_givesStatus_49 f_12_233 rfl rfl rfl ?_
  refine rz_callVv (t := [.int (Sq6.2 116 58)]) d_M_givesStatus_52 w_12_487 rfl rfl rfl q6 (fun Sq7 q7 => ?_)
  refine rz_pure (pc' := 56) d_M_givesStatus_55 rfl ?_
  refine rz_bipush (v := 13) d_M_givesStatus_56 (by decide) ?_
  refine rz_callVv (t := [.int 13]) d_M_givesStatus_58 w_12_406 rfl rfl rfl q7 (fun Sq8 q8 => ?_)
  exact rz_pick (ks := [0, 1]) (l := [(0, .ref 116), (1, .int a1)]) rfl rfl (by decide) rfl q8
theorem p_M_givesStatus_61 {S : rz_S} {K : rz_S → Prop} {a1 : Int32} (w : ((a1 ≤ S.2 116 67 → rz mM_givesStatus 106 [(0, .ref 116)] [] S (rz_v K)) ∧ (¬ a1 ≤ S.2 116 67 → ((S.2 116 70 ≤ S.2 116 59 → rz mM_givesStatus 106 [(0, .ref 116)] [] S (rz_v K)) ∧ (¬ S.2 116 70 ≤ S.2 116 59 → rx_in (S.2 116 59) 40 = true ∧ rz_ev mM_gives [.ref 116, .int (S.1 153 ((S.2 116 59).toNatClampNeg))] S (rz_v (fun Sq3 => rz mM_givesStatus 61 [(0, .ref 116), (1, .int a1)] [] (rz_uI Sq3 116 59 ((Sq3.2 116 59) + 1)) (rz_v K)))))))) : rz mM_givesStatus 61 [(0, .ref 116), (1, .int a1)] [] S (rz_v K) := by
  refine rz_pure (pc' := 62) d_M_givesStatus_61 rfl ?_
  refine rz_getiv (v := S.2 116 67) d_M_givesStatus_62 f_12_371 rfl rfl rfl ?_
  refine rz_pure (pc' := 66) d_M_givesStatus_65 rfl ?_
  refine rz_icmpge (tgt := 106) d_M_givesStatus_66 rfl (fun b1 => ?_) (fun b1 => ?_)
  · skip
    exact rz_pick (ks := [0]) (l := [(0, .ref 116)]) rfl rfl (by decide) rfl (w.1 b1)
  · skip
    refine rz_pure (pc' := 70) d_M_givesStatus_69 rfl ?_
    refine rz_getiv (v := S.2 116 59) d_M_givesStatus_70 f_12_236 rfl rfl rfl ?_
    refine rz_pure (pc' := 74) d_M_givesStatus_73 rfl ?_
    refine rz_getiv (v := S.2 116 70) d_M_givesStatus_74 f_12_401 rfl rfl rfl ?_
    refine rz_icmpge (tgt := 106) d_M_givesStatus_77 rfl (fun b2 => ?_) (fun b2 => ?_)
    · skip
      exact rz_pick (ks := [0]) (l := [(0, .ref 116)]) rfl rfl (by decide) rfl ((w.2 b1).1 b2)
    · skip
      refine rz_pure (pc' := 81) d_M_givesStatus_80 rfl ?_
      refine rz_pure (pc' := 82) d_M_givesStatus_81 rfl ?_
      refine rz_getr d_M_givesStatus_82 f_12_398 rfl rfl ?_
      refine rz_pure (pc' := 86) d_M_givesStatus_85 rfl ?_
      refine rz_getiv (v := S.2 116 59) d_M_givesStatus_86 f_12_236 rfl rfl rfl ?_
      refine rz_ialdv (F := S.1 153) (i := (S.2 116 59).toNatClampNeg) d_M_givesStatus_89 rfl ((w.2 b1).2 b2).1 rfl rfl ?_
      refine rz_callVv (t := [.int (S.1 153 ((S.2 116 59).toNatClampNeg))]) d_M_givesStatus_90 w_12_395 rfl rfl rfl ((w.2 b1).2 b2).2 (fun Sq3 q3 => ?_)
      refine rz_pure (pc' := 94) d_M_givesStatus_93 rfl ?_
      refine rz_pure (pc' := 95) d_M_givesStatus_94 rfl ?_
      refine rz_getiv (v := Sq3.2 116 59) d_M_givesStatus_95 f_12_236 rfl rfl rfl ?_
      refine rz_iconst (v := 1) d_M_givesStatus_98 (by decide) ?_
      refine rz_iadd d_M_givesStatus_99 ?_
      refine rz_puti d_M_givesStatus_100 f_12_236 rfl rfl rfl ?_
      refine rz_pure (pc' := 61) d_M_givesStatus_103 rfl ?_
      exact rz_pick (ks := [0, 1]) (l := [(0, .ref 116), (1, .int a1)]) rfl rfl (by decide) rfl q3
theorem p_M_givesStatus_106 {S : rz_S} {K : rz_S → Prop} (w : ((S.2 116 59 = S.2 116 70 → rz_ev mM_sets [.ref 116, .int 0, .int 0, .int 0] (rz_uI S 116 68 1) (rz_v (fun Sq2 => K Sq2))) ∧ (¬ S.2 116 59 = S.2 116 70 → K S))) : rz mM_givesStatus 106 [(0, .ref 116)] [] S (rz_v K) := by
  refine rz_pure (pc' := 107) d_M_givesStatus_106 rfl ?_
  refine rz_getiv (v := S.2 116 59) d_M_givesStatus_107 f_12_236 rfl rfl rfl ?_
  refine rz_pure (pc' := 111) d_M_givesStatus_110 rfl ?_
  refine rz_getiv (v := S.2 116 70) d_M_givesStatus_111 f_12_401 rfl rfl rfl ?_
  refine rz_icmpne (tgt := 129) d_M_givesStatus_114 rfl (fun b1 => ?_) (fun b1 => ?_)
  · skip
    exact rz_vretv d_M_givesStatus_129 rfl (w.2 b1)
  · skip
    refine rz_pure (pc' := 118) d_M_givesStatus_117 rfl ?_
    refine rz_iconst (v := 1) d_M_givesStatus_118 (by decide) ?_
    refine rz_puti d_M_givesStatus_119 f_12_374 rfl rfl rfl ?_
    refine rz_pure (pc' := 123) d_M_givesStatus_122 rfl ?_
    refine rz_iconst (v := 0) d_M_givesStatus_123 (by decide) ?_
    refine rz_iconst (v := 0) d_M_givesStatus_124 (by decide) ?_
    refine rz_iconst (v := 0) d_M_givesStatus_125 (by decide) ?_
    refine rz_callVv (t := [.int 0, .int 0, .int 0]) d_M_givesStatus_126 w_12_239 rfl rfl rfl (w.1 b1) (fun Sq2 q2 => ?_)
    exact rz_vretv d_M_givesStatus_129 rfl q2
theorem d_M_readsFile_0 : decode (rm_code mM_readsFile) 0 = .ok (.bipush (64), 2) := by decide +kernel
theorem d_M_readsFile_2 : decode (rm_code mM_readsFile) 2 = .ok (.iload_n 1, 1) := by decide +kernel
theorem d_M_readsFile_3 : decode (rm_code mM_readsFile) 3 = .ok (.imul, 1) := by decide +kernel
theorem d_M_readsFile_4 : decode (rm_code mM_readsFile) 4 = .ok (.istore_n 3, 1) := by decide +kernel
theorem d_M_readsFile_5 : decode (rm_code mM_readsFile) 5 = .ok (.iconst 1, 1) := by decide +kernel
theorem d_M_readsFile_6 : decode (rm_code mM_readsFile) 6 = .ok (.istore 4, 2) := by decide +kernel
theorem d_M_readsFile_8 : decode (rm_code mM_readsFile) 8 = .ok (.iload 4, 2) := by decide +kernel
theorem d_M_readsFile_10 : decode (rm_code mM_readsFile) 10 = .ok (.ifCond .eq (186), 3) := by decide +kernel
theorem d_M_readsFile_13 : decode (rm_code mM_readsFile) 13 = .ok (.aload_n 0, 1) := by decide +kernel
theorem d_M_readsFile_14 : decode (rm_code mM_readsFile) 14 = .ok (.getfield 371, 3) := by decide +kernel
theorem d_M_readsFile_17 : decode (rm_code mM_readsFile) 17 = .ok (.iload_n 2, 1) := by decide +kernel
theorem d_M_readsFile_18 : decode (rm_code mM_readsFile) 18 = .ok (.if_icmp .ge (178), 3) := by decide +kernel
theorem d_M_readsFile_21 : decode (rm_code mM_readsFile) 21 = .ok (.aload_n 0, 1) := by decide +kernel
theorem d_M_readsFile_22 : decode (rm_code mM_readsFile) 22 = .ok (.getfield 287, 3) := by decide +kernel
theorem d_M_readsFile_25 : decode (rm_code mM_readsFile) 25 = .ok (.iload_n 1, 1) := by decide +kernel
theorem d_M_readsFile_26 : decode (rm_code mM_readsFile) 26 = .ok (.iaload, 1) := by decide +kernel
theorem d_M_readsFile_27 : decode (rm_code mM_readsFile) 27 = .ok (.aload_n 0, 1) := by decide +kernel
theorem d_M_readsFile_28 : decode (rm_code mM_readsFile) 28 = .ok (.getfield 322, 3) := by decide +kernel
theorem d_M_readsFile_31 : decode (rm_code mM_readsFile) 31 = .ok (.iload_n 1, 1) := by decide +kernel
theorem d_M_readsFile_32 : decode (rm_code mM_readsFile) 32 = .ok (.iaload, 1) := by decide +kernel
theorem d_M_readsFile_33 : decode (rm_code mM_readsFile) 33 = .ok (.if_icmp .gt (69), 3) := by decide +kernel
theorem d_M_readsFile_36 : decode (rm_code mM_readsFile) 36 = .ok (.aload_n 0, 1) := by decide +kernel
theorem d_M_readsFile_37 : decode (rm_code mM_readsFile) 37 = .ok (.aload_n 0, 1) := by decide +kernel
theorem d_M_readsFile_38 : decode (rm_code mM_readsFile) 38 = .ok (.getfield 284, 3) := by decide +kernel
theorem d_M_readsFile_41 : decode (rm_code mM_readsFile) 41 = .ok (.iload_n 3, 1) := by decide +kernel
theorem d_M_readsFile_42 : decode (rm_code mM_readsFile) 42 = .ok (.aload_n 0, 1) := by decide +kernel
theorem d_M_readsFile_43 : decode (rm_code mM_readsFile) 43 = .ok (.getfield 287, 3) := by decide +kernel
theorem d_M_readsFile_46 : decode (rm_code mM_readsFile) 46 = .ok (.iload_n 1, 1) := by decide +kernel
theorem d_M_readsFile_47 : decode (rm_code mM_readsFile) 47 = .ok (.iaload, 1) := by decide +kernel
theorem d_M_readsFile_48 : decode (rm_code mM_readsFile) 48 = .ok (.iadd, 1) := by decide +kernel
theorem d_M_readsFile_49 : decode (rm_code mM_readsFile) 49 = .ok (.iaload, 1) := by decide +kernel
theorem d_M_readsFile_50 : decode (rm_code mM_readsFile) 50 = .ok (.invokevirtual 395, 3) := by decide +kernel
theorem d_M_readsFile_53 : decode (rm_code mM_readsFile) 53 = .ok (.aload_n 0, 1) := by decide +kernel
theorem d_M_readsFile_54 : decode (rm_code mM_readsFile) 54 = .ok (.getfield 287, 3) := by decide +kernel
theorem d_M_readsFile_57 : decode (rm_code mM_readsFile) 57 = .ok (.iload_n 1, 1) := by decide +kernel
theorem d_M_readsFile_58 : decode (rm_code mM_readsFile) 58 = .ok (.aload_n 0, 1) := by decide +kernel
theorem d_M_readsFile_59 : decode (rm_code mM_readsFile) 59 = .ok (.getfield 287, 3) := by decide +kernel
theorem d_M_readsFile_62 : decode (rm_code mM_readsFile) 62 = .ok (.iload_n 1, 1) := by decide +kernel
theorem d_M_readsFile_63 : decode (rm_code mM_readsFile) 63 = .ok (.iaload, 1) := by decide +kernel
theorem d_M_readsFile_64 : decode (rm_code mM_readsFile) 64 = .ok (.iconst 1, 1) := by decide +kernel
theorem d_M_readsFile_65 : decode (rm_code mM_readsFile) 65 = .ok (.iadd, 1) := by decide +kernel
theorem d_M_readsFile_66 : decode (rm_code mM_readsFile) 66 = .ok (.iastore, 1) := by decide +kernel
theorem d_M_readsFile_67 : decode (rm_code mM_readsFile) 67 = .ok (.aload_n 0, 1) := by decide +kernel
theorem d_M_readsFile_68 : decode (rm_code mM_readsFile) 68 = .ok (.getfield 318, 3) := by decide +kernel
theorem d_M_readsFile_71 : decode (rm_code mM_readsFile) 71 = .ok (.iload_n 1, 1) := by decide +kernel
theorem d_M_readsFile_72 : decode (rm_code mM_readsFile) 72 = .ok (.baload, 1) := by decide +kernel
theorem d_M_readsFile_73 : decode (rm_code mM_readsFile) 73 = .ok (.ifCond .eq (-65), 3) := by decide +kernel
theorem d_M_readsFile_76 : decode (rm_code mM_readsFile) 76 = .ok (.aload_n 0, 1) := by decide +kernel
theorem d_M_readsFile_77 : decode (rm_code mM_readsFile) 77 = .ok (.getfield 287, 3) := by decide +kernel
theorem d_M_readsFile_80 : decode (rm_code mM_readsFile) 80 = .ok (.iload_n 1, 1) := by decide +kernel
theorem d_M_readsFile_81 : decode (rm_code mM_readsFile) 81 = .ok (.iaload, 1) := by decide +kernel
theorem d_M_readsFile_82 : decode (rm_code mM_readsFile) 82 = .ok (.aload_n 0, 1) := by decide +kernel
theorem d_M_readsFile_83 : decode (rm_code mM_readsFile) 83 = .ok (.getfield 322, 3) := by decide +kernel
theorem d_M_readsFile_86 : decode (rm_code mM_readsFile) 86 = .ok (.iload_n 1, 1) := by decide +kernel
theorem d_M_readsFile_87 : decode (rm_code mM_readsFile) 87 = .ok (.iaload, 1) := by decide +kernel
theorem d_M_readsFile_88 : decode (rm_code mM_readsFile) 88 = .ok (.if_icmp .le (-80), 3) := by decide +kernel
theorem d_M_readsFile_91 : decode (rm_code mM_readsFile) 91 = .ok (.aload_n 0, 1) := by decide +kernel
theorem d_M_readsFile_92 : decode (rm_code mM_readsFile) 92 = .ok (.iconst 1, 1) := by decide +kernel
theorem d_M_readsFile_93 : decode (rm_code mM_readsFile) 93 = .ok (.putfield 374, 3) := by decide +kernel
theorem d_M_readsFile_96 : decode (rm_code mM_readsFile) 96 = .ok (.iconst 0, 1) := by decide +kernel
theorem d_M_readsFile_97 : decode (rm_code mM_readsFile) 97 = .ok (.istore 4, 2) := by decide +kernel
theorem d_M_readsFile_99 : decode (rm_code mM_readsFile) 99 = .ok (.goto (-91), 3) := by decide +kernel
theorem d_M_readsFile_102 : decode (rm_code mM_readsFile) 102 = .ok (.aload_n 0, 1) := by decide +kernel
theorem d_M_readsFile_103 : decode (rm_code mM_readsFile) 103 = .ok (.getfield 318, 3) := by decide +kernel
theorem d_M_readsFile_106 : decode (rm_code mM_readsFile) 106 = .ok (.iload_n 1, 1) := by decide +kernel
theorem d_M_readsFile_107 : decode (rm_code mM_readsFile) 107 = .ok (.baload, 1) := by decide +kernel
theorem d_M_readsFile_108 : decode (rm_code mM_readsFile) 108 = .ok (.ifCond .eq (9), 3) := by decide +kernel
theorem d_M_readsFile_111 : decode (rm_code mM_readsFile) 111 = .ok (.iconst 0, 1) := by decide +kernel
theorem d_M_readsFile_112 : decode (rm_code mM_readsFile) 112 = .ok (.istore 4, 2) := by decide +kernel
theorem d_M_readsFile_114 : decode (rm_code mM_readsFile) 114 = .ok (.goto (-106), 3) := by decide +kernel
theorem d_M_readsFile_117 : decode (rm_code mM_readsFile) 117 = .ok (.aload_n 0, 1) := by decide +kernel
theorem d_M_readsFile_118 : decode (rm_code mM_readsFile) 118 = .ok (.getfield 284, 3) := by decide +kernel
theorem d_M_readsFile_121 : decode (rm_code mM_readsFile) 121 = .ok (.iload_n 3, 1) := by decide +kernel
theorem d_M_readsFile_122 : decode (rm_code mM_readsFile) 122 = .ok (.iaload, 1) := by decide +kernel
theorem d_M_readsFile_123 : decode (rm_code mM_readsFile) 123 = .ok (.istore 5, 2) := by decide +kernel
theorem d_M_readsFile_125 : decode (rm_code mM_readsFile) 125 = .ok (.aload_n 0, 1) := by decide +kernel
theorem d_M_readsFile_126 : decode (rm_code mM_readsFile) 126 = .ok (.getfield 284, 3) := by decide +kernel
theorem d_M_readsFile_129 : decode (rm_code mM_readsFile) 129 = .ok (.iload_n 3, 1) := by decide +kernel
theorem d_M_readsFile_130 : decode (rm_code mM_readsFile) 130 = .ok (.iconst 1, 1) := by decide +kernel
theorem d_M_readsFile_131 : decode (rm_code mM_readsFile) 131 = .ok (.iadd, 1) := by decide +kernel
theorem d_M_readsFile_132 : decode (rm_code mM_readsFile) 132 = .ok (.iaload, 1) := by decide +kernel
theorem d_M_readsFile_133 : decode (rm_code mM_readsFile) 133 = .ok (.istore 6, 2) := by decide +kernel
theorem d_M_readsFile_135 : decode (rm_code mM_readsFile) 135 = .ok (.iload 5, 2) := by decide +kernel
theorem d_M_readsFile_137 : decode (rm_code mM_readsFile) 137 = .ok (.iload 6, 2) := by decide +kernel
theorem d_M_readsFile_139 : decode (rm_code mM_readsFile) 139 = .ok (.invokestatic 161, 3) := by decide +kernel
theorem d_M_readsFile_142 : decode (rm_code mM_readsFile) 142 = .ok (.ifCond .eq (19), 3) := by decide +kernel
theorem d_M_readsFile_145 : decode (rm_code mM_readsFile) 145 = .ok (.aload_n 0, 1) := by decide +kernel
theorem d_M_readsFile_146 : decode (rm_code mM_readsFile) 146 = .ok (.iload 5, 2) := by decide +kernel
theorem d_M_readsFile_148 : decode (rm_code mM_readsFile) 148 = .ok (.iload 6, 2) := by decide +kernel
theorem d_M_readsFile_150 : decode (rm_code mM_readsFile) 150 = .ok (.aload_n 0, 1) := by decide +kernel
theorem d_M_readsFile_151 : decode (rm_code mM_readsFile) 151 = .ok (.getfield 284, 3) := by decide +kernel
theorem d_M_readsFile_154 : decode (rm_code mM_readsFile) 154 = .ok (.iload_n 3, 1) := by decide +kernel
theorem d_M_readsFile_155 : decode (rm_code mM_readsFile) 155 = .ok (.invokevirtual 148, 3) := by decide +kernel
theorem d_M_readsFile_158 : decode (rm_code mM_readsFile) 158 = .ok (.goto (13), 3) := by decide +kernel
theorem d_M_readsFile_161 : decode (rm_code mM_readsFile) 161 = .ok (.aload_n 0, 1) := by decide +kernel
theorem d_M_readsFile_162 : decode (rm_code mM_readsFile) 162 = .ok (.bipush (71), 2) := by decide +kernel
theorem d_M_readsFile_164 : decode (rm_code mM_readsFile) 164 = .ok (.iload 5, 2) := by decide +kernel
theorem d_M_readsFile_166 : decode (rm_code mM_readsFile) 166 = .ok (.iload 6, 2) := by decide +kernel
theorem d_M_readsFile_168 : decode (rm_code mM_readsFile) 168 = .ok (.invokevirtual 113, 3) := by decide +kernel
theorem d_M_readsFile_171 : decode (rm_code mM_readsFile) 171 = .ok (.istore 7, 2) := by decide +kernel
theorem d_M_readsFile_173 : decode (rm_code mM_readsFile) 173 = .ok (.iload 7, 2) := by decide +kernel
theorem d_M_readsFile_175 : decode (rm_code mM_readsFile) 175 = .ok (.ifCond .eq (13), 3) := by decide +kernel
theorem d_M_readsFile_178 : decode (rm_code mM_readsFile) 178 = .ok (.aload_n 0, 1) := by decide +kernel
theorem d_M_readsFile_179 : decode (rm_code mM_readsFile) 179 = .ok (.getfield 248, 3) := by decide +kernel
theorem d_M_readsFile_182 : decode (rm_code mM_readsFile) 182 = .ok (.iload_n 1, 1) := by decide +kernel
theorem d_M_readsFile_183 : decode (rm_code mM_readsFile) 183 = .ok (.iconst 0, 1) := by decide +kernel
theorem d_M_readsFile_184 : decode (rm_code mM_readsFile) 184 = .ok (.iastore, 1) := by decide +kernel
theorem d_M_readsFile_185 : decode (rm_code mM_readsFile) 185 = .ok (.iload 7, 2) := by decide +kernel
theorem d_M_readsFile_187 : decode (rm_code mM_readsFile) 187 = .ok (.ireturn, 1) := by decide +kernel
theorem d_M_readsFile_188 : decode (rm_code mM_readsFile) 188 = .ok (.aload_n 0, 1) := by decide +kernel
theorem d_M_readsFile_189 : decode (rm_code mM_readsFile) 189 = .ok (.iload_n 1, 1) := by decide +kernel
theorem d_M_readsFile_190 : decode (rm_code mM_readsFile) 190 = .ok (.invokevirtual 329, 3) := by decide +kernel
theorem d_M_readsFile_193 : decode (rm_code mM_readsFile) 193 = .ok (.goto (-185), 3) := by decide +kernel
theorem d_M_readsFile_196 : decode (rm_code mM_readsFile) 196 = .ok (.iconst 0, 1) := by decide +kernel
theorem d_M_readsFile_197 : decode (rm_code mM_readsFile) 197 = .ok (.ireturn, 1) := by decide +kernel
theorem p_M_readsFile_0 {S : rz_S} {K : Int32 → rz_S → Prop} {a1 : Int32} {a2 : Int32} (w : rz mM_readsFile 8 [(0, .ref 116), (1, .int a1), (2, .int a2), (3, .int (64 * a1)), (4, .int 1)] [] S (rz_i K)) : rz mM_readsFile 0 [(0, .ref 116), (1, .int a1), (2, .int a2)] [] S (rz_i K) := by
  refine rz_bipush (v := 64) d_M_readsFile_0 (by decide) ?_
  refine rz_pure (pc' := 3) d_M_readsFile_2 rfl ?_
  refine rz_imul d_M_readsFile_3 ?_
  refine rz_pure (pc' := 5) (l' := [(3, .int (64 * a1)), (0, .ref 116), (1, .int a1), (2, .int a2)]) d_M_readsFile_4 rfl ?_
  refine rz_iconst (v := 1) d_M_readsFile_5 (by decide) ?_
  refine rz_pure (pc' := 8) (l' := [(4, .int 1), (3, .int (64 * a1)), (0, .ref 116), (1, .int a1), (2, .int a2)]) d_M_readsFile_6 rfl ?_
  exact rz_pick (ks := [0, 1, 2, 3, 4]) (l := [(0, .ref 116), (1, .int a1), (2, .int a2), (3, .int (64 * a1)), (4, .int 1)]) rfl rfl (by decide) rfl w
theorem p_M_readsFile_8 {S : rz_S} {K : Int32 → rz_S → Prop} {a1 : Int32} {a2 : Int32} {a3 : Int32} {a4 : Int32} (w : ((a4 = 0 → K 0 S) ∧ (¬ a4 = 0 → ((a2 ≤ S.2 116 67 → K 0 S) ∧ (¬ a2 ≤ S.2 116 67 → rx_in a1 15 = true ∧ ((S.1 129 a1.toNatClampNeg < S.1 128 a1.toNatClampNeg → ((S.1 130 a1.toNatClampNeg = 0 → rx_in a3 960 = true ∧ rx_in (a3 + 1) 960 = true ∧ rz_ev mM_isLegal [.int (S.1 127 a3.toNatClampNeg), .int (S.1 127 ((a3 + 1).toNatClampNeg))] S (rz_i (fun xq5 Sq5 => ((xq5 = 0 → rz_ev mM_fault [.ref 116, .int 71, .int (S.1 127 a3.toNatClampNeg), .int (S.1 127 ((a3 + 1).toNatClampNeg))] Sq5 (rz_i (fun xq7 Sq7 => rz mM_readsFile 171 [(0, .ref 116), (1, .int a1), (2, .int a2), (3, .int a3), (4, .int a4)] [.int xq7] Sq7 (rz_i K)))) ∧ (¬ xq5 = 0 → rz_ev mM_readBlock [.ref 116, .int (S.1 127 a3.toNatClampNeg), .int (S.1 127 ((a3 + 1).toNatClampNeg)), .ref 127, .int a3] Sq5 (rz_i (fun xq8 Sq8 => rz mM_readsFile 171 [(0, .ref 116), (1, .int a1), (2, .int a2), (3, .int a3), (4, .int a4)] [.int xq8] Sq8 (rz_i K)))))))) ∧ (¬ S.1 130 a1.toNatClampNeg = 0 → rz mM_readsFile 8 [(0, .ref 116), (1, .int a1), (2, .int a2), (3, .int a3), (4, .int 0)] [] S (rz_i K)))) ∧ (¬ S.1 129 a1.toNatClampNeg < S.1 128 a1.toNatClampNeg → rx_in (a3 + (S.1 128 a1.toNatClampNeg)) 960 = true ∧ rz_ev mM_gives [.ref 116, .int (S.1 127 ((a3 + (S.1 128 a1.toNatClampNeg)).toNatClampNeg))] S (rz_v (fun Sq9 => ((Sq9.1 130 a1.toNatClampNeg = 0 → rz mM_readsFile 8 [(0, .ref 116), (1, .int a1), (2, .int a2), (3, .int a3), (4, .int a4)] [] (rz_fA Sq9 128 (upd (Sq9.1 128) a1.toNatClampNeg ((Sq9.1 128 a1.toNatClampNeg) + 1))) (rz_i K)) ∧ (¬ Sq9.1 130 a1.toNatClampNeg = 0 → (((upd (Sq9.1 128) a1.toNatClampNeg ((Sq9.1 128 a1.toNatClampNeg) + 1)) a1.toNatClampNeg ≤ Sq9.1 129 a1.toNatClampNeg → rz mM_readsFile 8 [(0, .ref 116), (1, .int a1), (2, .int a2), (3, .int a3), (4, .int a4)] [] (rz_fA Sq9 128 (upd (Sq9.1 128) a1.toNatClampNeg ((Sq9.1 128 a1.toNatClampNeg) + 1))) (rz_i K)) ∧ (¬ (upd (Sq9.1 128) a1.toNatClampNeg ((Sq9.1 128 a1.toNatClampNeg) + 1)) a1.toNatClampNeg ≤ Sq9.1 129 a1.toNatClampNeg → rz mM_readsFile 8 [(0, .ref 116), (1, .int a1), (2, .int a2), (3, .int a3), (4, .int 0)] [] (rz_uI (rz_fA Sq9 128 (upd (Sq9.1 128) a1.toNatClampNeg ((Sq9.1 128 a1.toNatClampNeg) + 1))) 116 68 1) (rz_i K)))))))))))))) : rz mM_readsFile 8 [(0, .ref 116), (1, .int a1), (2, .int a2), (3, .int a3), (4, .int a4)] [] S (rz_i K) := by
  refine rz_pure (pc' := 10) d_M_readsFile_8 rfl ?_
  refine rz_ifeq (tgt := 196) d_M_readsFile_10 rfl (fun b1 => ?_) (fun b1 => ?_)
  · skip
    refine rz_iconst (v := 0) d_M_readsFile_196 (by decide) ?_
    exact rz_ireti d_M_readsFile_197 rfl rfl (w.1 b1)
  · skip
    refine rz_pure (pc' := 14) d_M_readsFile_13 rfl ?_
    refine rz_getiv (v := S.2 116 67) d_M_readsFile_14 f_12_371 rfl rfl rfl ?_
    refine rz_pure (pc' := 18) d_M_readsFile_17 rfl ?_
    refine rz_icmpge (tgt := 196) d_M_readsFile_18 rfl (fun b2 => ?_) (fun b2 => ?_)
    · skip
      refine rz_iconst (v := 0) d_M_readsFile_196 (by decide) ?_
      exact rz_ireti d_M_readsFile_197 rfl rfl ((w.2 b1).1 b2)
    · skip
      refine rz_pure (pc' := 22) d_M_readsFile_21 rfl ?_
      refine rz_getr d_M_readsFile_22 f_12_287 rfl rfl ?_
      refine rz_pure (pc' := 26) d_M_readsFile_25 rfl ?_
      refine rz_ialdv (F := S.1 128) (i := a1.toNatClampNeg) d_M_readsFile_26 rfl ((w.2 b1).2 b2).1 rfl rfl ?_
      refine rz_pure (pc' := 28) d_M_readsFile_27 rfl ?_
      refine rz_getr d_M_readsFile_28 f_12_322 rfl rfl ?_
      refine rz_pure (pc' := 32) d_M_readsFile_31 rfl ?_
      refine rz_ialdv (F := S.1 129) (i := a1.toNatClampNeg) d_M_readsFile_32 rfl ((w.2 b1).2 b2).1 rfl rfl ?_
      refine rz_icmpgt (tgt := 102) d_M_readsFile_33 rfl (fun b3 => ?_) (fun b3 => ?_)
      · skip
        refine rz_pure (pc' := 103) d_M_readsFile_102 rfl ?_
        refine rz_getr d_M_readsFile_103 f_12_318 rfl rfl ?_
        refine rz_pure (pc' := 107) d_M_readsFile_106 rfl ?_
        refine rz_baldv (F := S.1 130) (i := a1.toNatClampNeg) d_M_readsFile_107 rfl (by decide) ((w.2 b1).2 b2).1 rfl rfl ?_
        refine rz_ifeq (tgt := 117) d_M_readsFile_108 rfl (fun b4 => ?_) (fun b4 => ?_)
        · skip
          refine rz_pure (pc' := 118) d_M_readsFile_117 rfl ?_
          refine rz_getr d_M_readsFile_118 f_12_284 rfl rfl ?_
          refine rz_pure (pc' := 122) d_M_readsFile_121 rfl ?_
          refine rz_ialdv (F := S.1 127) (i := a3.toNatClampNeg) d_M_readsFile_122 rfl ((((w.2 b1).2 b2).2.1 b3).1 b4).1 rfl rfl ?_
          refine rz_pure (pc' := 125) (l' := [(5, .int (S.1 127 a3.toNatClampNeg)), (0, .ref 116), (1, .int a1), (2, .int a2), (3, .int a3), (4, .int a4)]) d_M_readsFile_123 rfl ?_
          refine rz_pure (pc' := 126) d_M_readsFile_125 rfl ?_
          refine rz_getr d_M_readsFile_126 f_12_284 rfl rfl ?_
          refine rz_pure (pc' := 130) d_M_readsFile_129 rfl ?_
          refine rz_iconst (v := 1) d_M_readsFile_130 (by decide) ?_
          refine rz_iadd d_M_readsFile_131 ?_
          refine rz_ialdv (F := S.1 127) (i := (a3 + 1).toNatClampNeg) d_M_readsFile_132 rfl ((((w.2 b1).2 b2).2.1 b3).1 b4).2.1 rfl rfl ?_
          refine rz_pure (pc' := 135) (l' := [(6, .int (S.1 127 ((a3 + 1).toNatClampNeg))), (5, .int (S.1 127 a3.toNatClampNeg)), (0, .ref 116), (1, .int a1), (2, .int a2), (3, .int a3), (4, .int a4)]) d_M_readsFile_133 rfl ?_
          refine rz_pure (pc' := 137) d_M_readsFile_135 rfl ?_
          refine rz_pure (pc' := 139) d_M_readsFile_137 rfl ?_
          refine rz_callSi (t := [.int (S.1 127 ((a3 + 1).toNatClampNeg)), .int (S.1 127 a3.toNatClampNeg)]) d_M_readsFile_139 rfl w_12_161 rfl rfl ((((w.2 b1).2 b2).2.1 b3).1 b4).2.2 (fun xq5 Sq5 q5 => ?_)
          refine rz_ifeq (tgt := 161) d_M_readsFile_142 rfl (fun b6 => ?_) (fun b6 => ?_)
          · skip
            refine rz_pure (pc' := 162) d_M_readsFile_161 rfl ?_
            refine rz_bipush (v := 71) d_M_readsFile_162 (by decide) ?_
            refine rz_pure (pc' := 166) d_M_readsFile_164 rfl ?_
            refine rz_pure (pc' := 168) d_M_readsFile_166 rfl ?_
            refine rz_callVi (t := [.int (S.1 127 ((a3 + 1).toNatClampNeg)), .int (S.1 127 a3.toNatClampNeg), .int 71]) d_M_readsFile_168 w_12_113 rfl rfl rfl (q5.1 b6) (fun xq7 Sq7 q7 => ?_)
            exact rz_pick (ks := [0, 1, 2, 3, 4]) (l := [(0, .ref 116), (1, .int a1), (2, .int a2), (3, .int a3), (4, .int a4)]) rfl rfl (by decide) rfl q7
          · skip
            refine rz_pure (pc' := 146) d_M_readsFile_145 rfl ?_
            refine rz_pure (pc' := 148) d_M_readsFile_146 rfl ?_
            refine rz_pure (pc' := 150) d_M_readsFile_148 rfl ?_
            refine rz_pure (pc' := 151) d_M_readsFile_150 rfl ?_
            refine rz_getr d_M_readsFile_151 f_12_284 rfl rfl ?_
            refine rz_pure (pc' := 155) d_M_readsFile_154 rfl ?_
            refine rz_callVi (t := [.int a3, .ref 127, .int (S.1 127 ((a3 + 1).toNatClampNeg)), .int (S.1 127 a3.toNatClampNeg)]) d_M_readsFile_155 w_12_148 rfl rfl rfl (q5.2 b6) (fun xq8 Sq8 q8 => ?_)
            refine rz_pure (pc' := 171) d_M_readsFile_158 rfl ?_
            exact rz_pick (ks := [0, 1, 2, 3, 4]) (l := [(0, .ref 116), (1, .int a1), (2, .int a2), (3, .int a3), (4, .int a4)]) rfl rfl (by decide) rfl q8
        · skip
          refine rz_iconst (v := 0) d_M_readsFile_111 (by decide) ?_
          refine rz_pure (pc' := 114) (l' := [(4, .int 0), (0, .ref 116), (1, .int a1), (2, .int a2), (3, .int a3)]) d_M_readsFile_112 rfl ?_
          refine rz_pure (pc' := 8) d_M_readsFile_114 rfl ?_
          exact rz_pick (ks := [0, 1, 2, 3, 4]) (l := [(0, .ref 116), (1, .int a1), (2, .int a2), (3, .int a3), (4, .int 0)]) rfl rfl (by decide) rfl ((((w.2 b1).2 b2).2.1 b3).2 b4)
      · skip
        refine rz_pure (pc' := 37) d_M_readsFile_36 rfl ?_
        refine rz_pure (pc' := 38) d_M_readsFile_37 rfl ?_
        refine rz_getr d_M_readsFile_38 f_12_284 rfl rfl ?_
        refine rz_pure (pc' := 42) d_M_readsFile_41 rfl ?_
        refine rz_pure (pc' := 43) d_M_readsFile_42 rfl ?_
        refine rz_getr d_M_readsFile_43 f_12_287 rfl rfl ?_
        refine rz_pure (pc' := 47) d_M_readsFile_46 rfl ?_
        refine rz_ialdv (F := S.1 128) (i := a1.toNatClampNeg) d_M_readsFile_47 rfl ((w.2 b1).2 b2).1 rfl rfl ?_
        refine rz_iadd d_M_readsFile_48 ?_
        refine rz_ialdv (F := S.1 127) (i := (a3 + (S.1 128 a1.toNatClampNeg)).toNatClampNeg) d_M_readsFile_49 rfl (((w.2 b1).2 b2).2.2 b3).1 rfl rfl ?_
        refine rz_callVv (t := [.int (S.1 127 ((a3 + (S.1 128 a1.toNatClampNeg)).toNatClampNeg))]) d_M_readsFile_50 w_12_395 rfl rfl rfl (((w.2 b1).2 b2).2.2 b3).2 (fun Sq9 q9 => ?_)
        refine rz_pure (pc' := 54) d_M_readsFile_53 rfl ?_
        refine rz_getr d_M_readsFile_54 f_12_287 rfl rfl ?_
        refine rz_pure (pc' := 58) d_M_readsFile_57 rfl ?_
        refine rz_pure (pc' := 59) d_M_readsFile_58 rfl ?_
        refine rz_getr d_M_readsFile_59 f_12_287 rfl rfl ?_
        refine rz_pure (pc' := 63) d_M_readsFile_62 rfl ?_
        refine rz_ialdv (F := Sq9.1 128) (i := a1.toNatClampNeg) d_M_readsFile_63 rfl ((w.2 b1).2 b2).1 rfl rfl ?_
        refine rz_iconst (v := 1) d_M_readsFile_64 (by decide) ?_
        refine rz_iadd d_M_readsFile_65 ?_
        refine rz_iastv (F := Sq9.1 128) (i := a1.toNatClampNeg) d_M_readsFile_66 rfl ((w.2 b1).2 b2).1 rfl rfl ?_
        refine rz_pure (pc' := 68) d_M_readsFile_67 rfl ?_
        refine rz_getr d_M_readsFile_68 f_12_318 rfl rfl ?_
        refine rz_pure (pc' := 72) d_M_readsFile_71 rfl ?_
        refine rz_baldv (F := Sq9.1 130) (i := a1.toNatClampNeg) d_M_readsFile_72 rfl (by decide) ((w.2 b1).2 b2).1 ((rz_fA_n (by omega)).trans rfl) rfl ?_
        refine rz_ifeq (tgt := 8) d_M_readsFile_73 rfl (fun b10 => ?_) (fun b10 => ?_)
        · skip
          exact rz_pick (ks := [0, 1, 2, 3, 4]) (l := [(0, .ref 116), (1, .int a1), (2, .int a2), (3, .int a3), (4, .int a4)]) rfl rfl (by decide) rfl (q9.1 b10)
        · skip
          refine rz_pure (pc' := 77) d_M_readsFile_76 rfl ?_
          refine rz_getr d_M_readsFile_77 f_12_287 rfl rfl ?_
          refine rz_pure (pc' := 81) d_M_readsFile_80 rfl ?_
          refine rz_ialdv (F := upd (Sq9.1 128) a1.toNatClampNeg ((Sq9.1 128 a1.toNatClampNeg) + 1)) (i := a1.toNatClampNeg) d_M_readsFile_81 rfl ((w.2 b1).2 b2).1 rz_fA_s rfl ?_
          refine rz_pure (pc' := 83) d_M_readsFile_82 rfl ?_
          refine rz_getr d_M_readsFile_83 f_12_322 rfl rfl ?_
          refine rz_pure (pc' := 87) d_M_readsFile_86 rfl ?_
          refine rz_ialdv (F := Sq9.1 129) (i := a1.toNatClampNeg) d_M_readsFile_87 rfl ((w.2 b1).2 b2).1 ((rz_fA_n (by omega)).trans rfl) rfl ?_
          refine rz_icmple (tgt := 8) d_M_readsFile_88 rfl (fun b11 => ?_) (fun b11 => ?_)
          · skip
            exact rz_pick (ks := [0, 1, 2, 3, 4]) (l := [(0, .ref 116), (1, .int a1), (2, .int a2), (3, .int a3), (4, .int a4)]) rfl rfl (by decide) rfl ((q9.2 b10).1 b11)
          · skip
            refine rz_pure (pc' := 92) d_M_readsFile_91 rfl ?_
            refine rz_iconst (v := 1) d_M_readsFile_92 (by decide) ?_
            refine rz_puti d_M_readsFile_93 f_12_374 rfl rfl rfl ?_
            refine rz_iconst (v := 0) d_M_readsFile_96 (by decide) ?_
            refine rz_pure (pc' := 99) (l' := [(4, .int 0), (0, .ref 116), (1, .int a1), (2, .int a2), (3, .int a3)]) d_M_readsFile_97 rfl ?_
            refine rz_pure (pc' := 8) d_M_readsFile_99 rfl ?_
            exact rz_pick (ks := [0, 1, 2, 3, 4]) (l := [(0, .ref 116), (1, .int a1), (2, .int a2), (3, .int a3), (4, .int 0)]) rfl rfl (by decide) rfl ((q9.2 b10).2 b11)
theorem p_M_readsFile_171 {S : rz_S} {K : Int32 → rz_S → Prop} {a1 : Int32} {a2 : Int32} {a3 : Int32} {a4 : Int32} {s0 : Int32} (w : ((s0 = 0 → rz_ev mM_begun [.ref 116, .int a1] S (rz_v (fun Sq2 => rz mM_readsFile 8 [(0, .ref 116), (1, .int a1), (2, .int a2), (3, .int a3), (4, .int a4)] [] Sq2 (rz_i K)))) ∧ (¬ s0 = 0 → rx_in a1 15 = true ∧ K s0 (rz_fA S 126 (upd (S.1 126) a1.toNatClampNeg 0))))) : rz mM_readsFile 171 [(0, .ref 116), (1, .int a1), (2, .int a2), (3, .int a3), (4, .int a4)] [.int s0] S (rz_i K) := by
  refine rz_pure (pc' := 173) (l' := [(7, .int s0), (0, .ref 116), (1, .int a1), (2, .int a2), (3, .int a3), (4, .int a4)]) d_M_readsFile_171 rfl ?_
  refine rz_pure (pc' := 175) d_M_readsFile_173 rfl ?_
  refine rz_ifeq (tgt := 188) d_M_readsFile_175 rfl (fun b1 => ?_) (fun b1 => ?_)
  · skip
    refine rz_pure (pc' := 189) d_M_readsFile_188 rfl ?_
    refine rz_pure (pc' := 190) d_M_readsFile_189 rfl ?_
    refine rz_callVv (t := [.int a1]) d_M_readsFile_190 w_12_329 rfl rfl rfl (w.1 b1) (fun Sq2 q2 => ?_)
    refine rz_pure (pc' := 8) d_M_readsFile_193 rfl ?_
    exact rz_pick (ks := [0, 1, 2, 3, 4]) (l := [(0, .ref 116), (1, .int a1), (2, .int a2), (3, .int a3), (4, .int a4)]) rfl rfl (by decide) rfl q2
  · skip
    refine rz_pure (pc' := 179) d_M_readsFile_178 rfl ?_
    refine rz_getr d_M_readsFile_179 f_12_248 rfl rfl ?_
    refine rz_pure (pc' := 183) d_M_readsFile_182 rfl ?_
    refine rz_iconst (v := 0) d_M_readsFile_183 (by decide) ?_
    refine rz_iastv (F := S.1 126) (i := a1.toNatClampNeg) d_M_readsFile_184 rfl (w.2 b1).1 rfl rfl ?_
    refine rz_pure (pc' := 187) d_M_readsFile_185 rfl ?_
    exact rz_ireti d_M_readsFile_187 rfl rfl (w.2 b1).2
theorem d_M_readsBuffer_0 : decode (rm_code mM_readsBuffer) 0 = .ok (.iconst 1, 1) := by decide +kernel
theorem d_M_readsBuffer_1 : decode (rm_code mM_readsBuffer) 1 = .ok (.istore_n 3, 1) := by decide +kernel
theorem d_M_readsBuffer_2 : decode (rm_code mM_readsBuffer) 2 = .ok (.iload_n 3, 1) := by decide +kernel
theorem d_M_readsBuffer_3 : decode (rm_code mM_readsBuffer) 3 = .ok (.ifCond .eq (73), 3) := by decide +kernel
theorem d_M_readsBuffer_6 : decode (rm_code mM_readsBuffer) 6 = .ok (.aload_n 0, 1) := by decide +kernel
theorem d_M_readsBuffer_7 : decode (rm_code mM_readsBuffer) 7 = .ok (.getfield 371, 3) := by decide +kernel
theorem d_M_readsBuffer_10 : decode (rm_code mM_readsBuffer) 10 = .ok (.iload_n 2, 1) := by decide +kernel
theorem d_M_readsBuffer_11 : decode (rm_code mM_readsBuffer) 11 = .ok (.if_icmp .ge (65), 3) := by decide +kernel
theorem d_M_readsBuffer_14 : decode (rm_code mM_readsBuffer) 14 = .ok (.aload_n 0, 1) := by decide +kernel
theorem d_M_readsBuffer_15 : decode (rm_code mM_readsBuffer) 15 = .ok (.aload_n 0, 1) := by decide +kernel
theorem d_M_readsBuffer_16 : decode (rm_code mM_readsBuffer) 16 = .ok (.getfield 284, 3) := by decide +kernel
theorem d_M_readsBuffer_19 : decode (rm_code mM_readsBuffer) 19 = .ok (.bipush (64), 2) := by decide +kernel
theorem d_M_readsBuffer_21 : decode (rm_code mM_readsBuffer) 21 = .ok (.iload_n 1, 1) := by decide +kernel
theorem d_M_readsBuffer_22 : decode (rm_code mM_readsBuffer) 22 = .ok (.imul, 1) := by decide +kernel
theorem d_M_readsBuffer_23 : decode (rm_code mM_readsBuffer) 23 = .ok (.aload_n 0, 1) := by decide +kernel
theorem d_M_readsBuffer_24 : decode (rm_code mM_readsBuffer) 24 = .ok (.getfield 287, 3) := by decide +kernel
theorem d_M_readsBuffer_27 : decode (rm_code mM_readsBuffer) 27 = .ok (.iload_n 1, 1) := by decide +kernel
theorem d_M_readsBuffer_28 : decode (rm_code mM_readsBuffer) 28 = .ok (.iaload, 1) := by decide +kernel
theorem d_M_readsBuffer_29 : decode (rm_code mM_readsBuffer) 29 = .ok (.iadd, 1) := by decide +kernel
theorem d_M_readsBuffer_30 : decode (rm_code mM_readsBuffer) 30 = .ok (.iaload, 1) := by decide +kernel
theorem d_M_readsBuffer_31 : decode (rm_code mM_readsBuffer) 31 = .ok (.invokevirtual 395, 3) := by decide +kernel
theorem d_M_readsBuffer_34 : decode (rm_code mM_readsBuffer) 34 = .ok (.aload_n 0, 1) := by decide +kernel
theorem d_M_readsBuffer_35 : decode (rm_code mM_readsBuffer) 35 = .ok (.getfield 287, 3) := by decide +kernel
theorem d_M_readsBuffer_38 : decode (rm_code mM_readsBuffer) 38 = .ok (.iload_n 1, 1) := by decide +kernel
theorem d_M_readsBuffer_39 : decode (rm_code mM_readsBuffer) 39 = .ok (.aload_n 0, 1) := by decide +kernel
theorem d_M_readsBuffer_40 : decode (rm_code mM_readsBuffer) 40 = .ok (.getfield 287, 3) := by decide +kernel
theorem d_M_readsBuffer_43 : decode (rm_code mM_readsBuffer) 43 = .ok (.iload_n 1, 1) := by decide +kernel
theorem d_M_readsBuffer_44 : decode (rm_code mM_readsBuffer) 44 = .ok (.iaload, 1) := by decide +kernel
theorem d_M_readsBuffer_45 : decode (rm_code mM_readsBuffer) 45 = .ok (.iconst 1, 1) := by decide +kernel
theorem d_M_readsBuffer_46 : decode (rm_code mM_readsBuffer) 46 = .ok (.iadd, 1) := by decide +kernel
theorem d_M_readsBuffer_47 : decode (rm_code mM_readsBuffer) 47 = .ok (.iastore, 1) := by decide +kernel
theorem d_M_readsBuffer_48 : decode (rm_code mM_readsBuffer) 48 = .ok (.aload_n 0, 1) := by decide +kernel
theorem d_M_readsBuffer_49 : decode (rm_code mM_readsBuffer) 49 = .ok (.getfield 287, 3) := by decide +kernel
theorem d_M_readsBuffer_52 : decode (rm_code mM_readsBuffer) 52 = .ok (.iload_n 1, 1) := by decide +kernel
theorem d_M_readsBuffer_53 : decode (rm_code mM_readsBuffer) 53 = .ok (.iaload, 1) := by decide +kernel
theorem d_M_readsBuffer_54 : decode (rm_code mM_readsBuffer) 54 = .ok (.bipush (64), 2) := by decide +kernel
theorem d_M_readsBuffer_56 : decode (rm_code mM_readsBuffer) 56 = .ok (.if_icmp .ne (-54), 3) := by decide +kernel
theorem d_M_readsBuffer_59 : decode (rm_code mM_readsBuffer) 59 = .ok (.aload_n 0, 1) := by decide +kernel
theorem d_M_readsBuffer_60 : decode (rm_code mM_readsBuffer) 60 = .ok (.getfield 287, 3) := by decide +kernel
theorem d_M_readsBuffer_63 : decode (rm_code mM_readsBuffer) 63 = .ok (.iload_n 1, 1) := by decide +kernel
theorem d_M_readsBuffer_64 : decode (rm_code mM_readsBuffer) 64 = .ok (.iconst 0, 1) := by decide +kernel
theorem d_M_readsBuffer_65 : decode (rm_code mM_readsBuffer) 65 = .ok (.iastore, 1) := by decide +kernel
theorem d_M_readsBuffer_66 : decode (rm_code mM_readsBuffer) 66 = .ok (.aload_n 0, 1) := by decide +kernel
theorem d_M_readsBuffer_67 : decode (rm_code mM_readsBuffer) 67 = .ok (.iconst 1, 1) := by decide +kernel
theorem d_M_readsBuffer_68 : decode (rm_code mM_readsBuffer) 68 = .ok (.putfield 374, 3) := by decide +kernel
theorem d_M_readsBuffer_71 : decode (rm_code mM_readsBuffer) 71 = .ok (.iconst 0, 1) := by decide +kernel
theorem d_M_readsBuffer_72 : decode (rm_code mM_readsBuffer) 72 = .ok (.istore_n 3, 1) := by decide +kernel
theorem d_M_readsBuffer_73 : decode (rm_code mM_readsBuffer) 73 = .ok (.goto (-71), 3) := by decide +kernel
theorem d_M_readsBuffer_76 : decode (rm_code mM_readsBuffer) 76 = .ok (.iconst 0, 1) := by decide +kernel
theorem d_M_readsBuffer_77 : decode (rm_code mM_readsBuffer) 77 = .ok (.ireturn, 1) := by decide +kernel
theorem p_M_readsBuffer_0 {S : rz_S} {K : Int32 → rz_S → Prop} {a1 : Int32} {a2 : Int32} (w : rz mM_readsBuffer 2 [(0, .ref 116), (1, .int a1), (2, .int a2), (3, .int 1)] [] S (rz_i K)) : rz mM_readsBuffer 0 [(0, .ref 116), (1, .int a1), (2, .int a2)] [] S (rz_i K) := by
  refine rz_iconst (v := 1) d_M_readsBuffer_0 (by decide) ?_
  refine rz_pure (pc' := 2) (l' := [(3, .int 1), (0, .ref 116), (1, .int a1), (2, .int a2)]) d_M_readsBuffer_1 rfl ?_
  exact rz_pick (ks := [0, 1, 2, 3]) (l := [(0, .ref 116), (1, .int a1), (2, .int a2), (3, .int 1)]) rfl rfl (by decide) rfl w
theorem p_M_readsBuffer_2 {S : rz_S} {K : Int32 → rz_S → Prop} {a1 : Int32} {a2 : Int32} {a3 : Int32} (w : ((a3 = 0 → K 0 S) ∧ (¬ a3 = 0 → ((a2 ≤ S.2 116 67 → K 0 S) ∧ (¬ a2 ≤ S.2 116 67 → rx_in a1 15 = true ∧ rx_in ((64 * a1) + (S.1 128 a1.toNatClampNeg)) 960 = true ∧ rz_ev mM_gives [.ref 116, .int (S.1 127 (((64 * a1) + (S.1 128 a1.toNatClampNeg)).toNatClampNeg))] S (rz_v (fun Sq3 => (((upd (Sq3.1 128) a1.toNatClampNeg ((Sq3.1 128 a1.toNatClampNeg) + 1)) a1.toNatClampNeg = 64 → rz mM_readsBuffer 2 [(0, .ref 116), (1, .int a1), (2, .int a2), (3, .int 0)] [] (rz_uI (rz_fA (rz_fA Sq3 128 (upd (Sq3.1 128) a1.toNatClampNeg ((Sq3.1 128 a1.toNatClampNeg) + 1))) 128 (upd (upd (Sq3.1 128) a1.toNatClampNeg ((Sq3.1 128 a1.toNatClampNeg) + 1)) a1.toNatClampNeg 0)) 116 68 1) (rz_i K)) ∧ (¬ (upd (Sq3.1 128) a1.toNatClampNeg ((Sq3.1 128 a1.toNatClampNeg) + 1)) a1.toNatClampNeg = 64 → rz mM_readsBuffer 2 [(0, .ref 116), (1, .int a1), (2, .int a2), (3, .int a3)] [] (rz_fA Sq3 128 (upd (Sq3.1 128) a1.toNatClampNeg ((Sq3.1 128 a1.toNatClampNeg) + 1))) (rz_i K)))))))))) : rz mM_readsBuffer 2 [(0, .ref 116), (1, .int a1), (2, .int a2), (3, .int a3)] [] S (rz_i K) := by
  refine rz_pure (pc' := 3) d_M_readsBuffer_2 rfl ?_
  refine rz_ifeq (tgt := 76) d_M_readsBuffer_3 rfl (fun b1 => ?_) (fun b1 => ?_)
  · skip
    refine rz_iconst (v := 0) d_M_readsBuffer_76 (by decide) ?_
    exact rz_ireti d_M_readsBuffer_77 rfl rfl (w.1 b1)
  · skip
    refine rz_pure (pc' := 7) d_M_readsBuffer_6 rfl ?_
    refine rz_getiv (v := S.2 116 67) d_M_readsBuffer_7 f_12_371 rfl rfl rfl ?_
    refine rz_pure (pc' := 11) d_M_readsBuffer_10 rfl ?_
    refine rz_icmpge (tgt := 76) d_M_readsBuffer_11 rfl (fun b2 => ?_) (fun b2 => ?_)
    · skip
      refine rz_iconst (v := 0) d_M_readsBuffer_76 (by decide) ?_
      exact rz_ireti d_M_readsBuffer_77 rfl rfl ((w.2 b1).1 b2)
    · skip
      refine rz_pure (pc' := 15) d_M_readsBuffer_14 rfl ?_
      refine rz_pure (pc' := 16) d_M_readsBuffer_15 rfl ?_
      refine rz_getr d_M_readsBuffer_16 f_12_284 rfl rfl ?_
      refine rz_bipush (v := 64) d_M_readsBuffer_19 (by decide) ?_
      refine rz_pure (pc' := 22) d_M_readsBuffer_21 rfl ?_
      refine rz_imul d_M_readsBuffer_22 ?_
      refine rz_pure (pc' := 24) d_M_readsBuffer_23 rfl ?_
      refine rz_getr d_M_readsBuffer_24 f_12_287 rfl rfl ?_
      refine rz_pure (pc' := 28) d_M_readsBuffer_27 rfl ?_
      refine rz_ialdv (F := S.1 128) (i := a1.toNatClampNeg) d_M_readsBuffer_28 rfl ((w.2 b1).2 b2).1 rfl rfl ?_
      refine rz_iadd d_M_readsBuffer_29 ?_
      refine rz_ialdv (F := S.1 127) (i := ((64 * a1) + (S.1 128 a1.toNatClampNeg)).toNatClampNeg) d_M_readsBuffer_30 rfl ((w.2 b1).2 b2).2.1 rfl rfl ?_
      refine rz_callVv (t := [.int (S.1 127 (((64 * a1) + (S.1 128 a1.toNatClampNeg)).toNatClampNeg))]) d_M_readsBuffer_31 w_12_395 rfl rfl rfl ((w.2 b1).2 b2).2.2 (fun Sq3 q3 => ?_)
      refine rz_pure (pc' := 35) d_M_readsBuffer_34 rfl ?_
      refine rz_getr d_M_readsBuffer_35 f_12_287 rfl rfl ?_
      refine rz_pure (pc' := 39) d_M_readsBuffer_38 rfl ?_
      refine rz_pure (pc' := 40) d_M_readsBuffer_39 rfl ?_
      refine rz_getr d_M_readsBuffer_40 f_12_287 rfl rfl ?_
      refine rz_pure (pc' := 44) d_M_readsBuffer_43 rfl ?_
      refine rz_ialdv (F := Sq3.1 128) (i := a1.toNatClampNeg) d_M_readsBuffer_44 rfl ((w.2 b1).2 b2).1 rfl rfl ?_
      refine rz_iconst (v := 1) d_M_readsBuffer_45 (by decide) ?_
      refine rz_iadd d_M_readsBuffer_46 ?_
      refine rz_iastv (F := Sq3.1 128) (i := a1.toNatClampNeg) d_M_readsBuffer_47 rfl ((w.2 b1).2 b2).1 rfl rfl ?_
      refine rz_pure (pc' := 49) d_M_readsBuffer_48 rfl ?_
      refine rz_getr d_M_readsBuffer_49 f_12_287 rfl rfl ?_
      refine rz_pure (pc' := 53) d_M_readsBuffer_52 rfl ?_
      refine rz_ialdv (F := upd (Sq3.1 128) a1.toNatClampNeg ((Sq3.1 128 a1.toNatClampNeg) + 1)) (i := a1.toNatClampNeg) d_M_readsBuffer_53 rfl ((w.2 b1).2 b2).1 rz_fA_s rfl ?_
      refine rz_bipush (v := 64) d_M_readsBuffer_54 (by decide) ?_
      refine rz_icmpne (tgt := 2) d_M_readsBuffer_56 rfl (fun b4 => ?_) (fun b4 => ?_)
      · skip
        exact rz_pick (ks := [0, 1, 2, 3]) (l := [(0, .ref 116), (1, .int a1), (2, .int a2), (3, .int a3)]) rfl rfl (by decide) rfl (q3.2 b4)
      · skip
        refine rz_pure (pc' := 60) d_M_readsBuffer_59 rfl ?_
        refine rz_getr d_M_readsBuffer_60 f_12_287 rfl rfl ?_
        refine rz_pure (pc' := 64) d_M_readsBuffer_63 rfl ?_
        refine rz_iconst (v := 0) d_M_readsBuffer_64 (by decide) ?_
        refine rz_iastv (F := upd (Sq3.1 128) a1.toNatClampNeg ((Sq3.1 128 a1.toNatClampNeg) + 1)) (i := a1.toNatClampNeg) d_M_readsBuffer_65 rfl ((w.2 b1).2 b2).1 rz_fA_s rfl ?_
        refine rz_pure (pc' := 67) d_M_readsBuffer_66 rfl ?_
        refine rz_iconst (v := 1) d_M_readsBuffer_67 (by decide) ?_
        refine rz_puti d_M_readsBuffer_68 f_12_374 rfl rfl rfl ?_
        refine rz_iconst (v := 0) d_M_readsBuffer_71 (by decide) ?_
        refine rz_pure (pc' := 73) (l' := [(3, .int 0), (0, .ref 116), (1, .int a1), (2, .int a2)]) d_M_readsBuffer_72 rfl ?_
        refine rz_pure (pc' := 2) d_M_readsBuffer_73 rfl ?_
        exact rz_pick (ks := [0, 1, 2, 3]) (l := [(0, .ref 116), (1, .int a1), (2, .int a2), (3, .int 0)]) rfl rfl (by decide) rfl (q3.1 b4)
theorem d_M_readsList_0 : decode (rm_code mM_readsList) 0 = .ok (.iconst 1, 1) := by decide +kernel
theorem d_M_readsList_1 : decode (rm_code mM_readsList) 1 = .ok (.istore_n 3, 1) := by decide +kernel
theorem d_M_readsList_2 : decode (rm_code mM_readsList) 2 = .ok (.iload_n 3, 1) := by decide +kernel
theorem d_M_readsList_3 : decode (rm_code mM_readsList) 3 = .ok (.ifCond .eq (211), 3) := by decide +kernel
theorem d_M_readsList_6 : decode (rm_code mM_readsList) 6 = .ok (.aload_n 0, 1) := by decide +kernel
theorem d_M_readsList_7 : decode (rm_code mM_readsList) 7 = .ok (.getfield 371, 3) := by decide +kernel
theorem d_M_readsList_10 : decode (rm_code mM_readsList) 10 = .ok (.iload_n 2, 1) := by decide +kernel
theorem d_M_readsList_11 : decode (rm_code mM_readsList) 11 = .ok (.if_icmp .ge (203), 3) := by decide +kernel
theorem d_M_readsList_14 : decode (rm_code mM_readsList) 14 = .ok (.aload_n 0, 1) := by decide +kernel
theorem d_M_readsList_15 : decode (rm_code mM_readsList) 15 = .ok (.getfield 308, 3) := by decide +kernel
theorem d_M_readsList_18 : decode (rm_code mM_readsList) 18 = .ok (.iload_n 1, 1) := by decide +kernel
theorem d_M_readsList_19 : decode (rm_code mM_readsList) 19 = .ok (.iaload, 1) := by decide +kernel
theorem d_M_readsList_20 : decode (rm_code mM_readsList) 20 = .ok (.aload_n 0, 1) := by decide +kernel
theorem d_M_readsList_21 : decode (rm_code mM_readsList) 21 = .ok (.getfield 305, 3) := by decide +kernel
theorem d_M_readsList_24 : decode (rm_code mM_readsList) 24 = .ok (.iload_n 1, 1) := by decide +kernel
theorem d_M_readsList_25 : decode (rm_code mM_readsList) 25 = .ok (.iaload, 1) := by decide +kernel
theorem d_M_readsList_26 : decode (rm_code mM_readsList) 26 = .ok (.if_icmp .ge (72), 3) := by decide +kernel
theorem d_M_readsList_29 : decode (rm_code mM_readsList) 29 = .ok (.aload_n 0, 1) := by decide +kernel
theorem d_M_readsList_30 : decode (rm_code mM_readsList) 30 = .ok (.aload_n 0, 1) := by decide +kernel
theorem d_M_readsList_31 : decode (rm_code mM_readsList) 31 = .ok (.getfield 493, 3) := by decide +kernel
theorem d_M_readsList_34 : decode (rm_code mM_readsList) 34 = .ok (.bipush (64), 2) := by decide +kernel
theorem d_M_readsList_36 : decode (rm_code mM_readsList) 36 = .ok (.iload_n 1, 1) := by decide +kernel
theorem d_M_readsList_37 : decode (rm_code mM_readsList) 37 = .ok (.imul, 1) := by decide +kernel
theorem d_M_readsList_38 : decode (rm_code mM_readsList) 38 = .ok (.aload_n 0, 1) := by decide +kernel
theorem d_M_readsList_39 : decode (rm_code mM_readsList) 39 = .ok (.getfield 308, 3) := by decide +kernel
theorem d_M_readsList_42 : decode (rm_code mM_readsList) 42 = .ok (.iload_n 1, 1) := by decide +kernel
theorem d_M_readsList_43 : decode (rm_code mM_readsList) 43 = .ok (.iaload, 1) := by decide +kernel
theorem d_M_readsList_44 : decode (rm_code mM_readsList) 44 = .ok (.iadd, 1) := by decide +kernel
theorem d_M_readsList_45 : decode (rm_code mM_readsList) 45 = .ok (.iaload, 1) := by decide +kernel
theorem d_M_readsList_46 : decode (rm_code mM_readsList) 46 = .ok (.invokevirtual 395, 3) := by decide +kernel
theorem d_M_readsList_49 : decode (rm_code mM_readsList) 49 = .ok (.aload_n 0, 1) := by decide +kernel
theorem d_M_readsList_50 : decode (rm_code mM_readsList) 50 = .ok (.getfield 308, 3) := by decide +kernel
theorem d_M_readsList_53 : decode (rm_code mM_readsList) 53 = .ok (.iload_n 1, 1) := by decide +kernel
theorem d_M_readsList_54 : decode (rm_code mM_readsList) 54 = .ok (.aload_n 0, 1) := by decide +kernel
theorem d_M_readsList_55 : decode (rm_code mM_readsList) 55 = .ok (.getfield 308, 3) := by decide +kernel
theorem d_M_readsList_58 : decode (rm_code mM_readsList) 58 = .ok (.iload_n 1, 1) := by decide +kernel
theorem d_M_readsList_59 : decode (rm_code mM_readsList) 59 = .ok (.iaload, 1) := by decide +kernel
theorem d_M_readsList_60 : decode (rm_code mM_readsList) 60 = .ok (.iconst 1, 1) := by decide +kernel
theorem d_M_readsList_61 : decode (rm_code mM_readsList) 61 = .ok (.iadd, 1) := by decide +kernel
theorem d_M_readsList_62 : decode (rm_code mM_readsList) 62 = .ok (.iastore, 1) := by decide +kernel
theorem d_M_readsList_63 : decode (rm_code mM_readsList) 63 = .ok (.aload_n 0, 1) := by decide +kernel
theorem d_M_readsList_64 : decode (rm_code mM_readsList) 64 = .ok (.getfield 308, 3) := by decide +kernel
theorem d_M_readsList_67 : decode (rm_code mM_readsList) 67 = .ok (.iload_n 1, 1) := by decide +kernel
theorem d_M_readsList_68 : decode (rm_code mM_readsList) 68 = .ok (.iaload, 1) := by decide +kernel
theorem d_M_readsList_69 : decode (rm_code mM_readsList) 69 = .ok (.aload_n 0, 1) := by decide +kernel
theorem d_M_readsList_70 : decode (rm_code mM_readsList) 70 = .ok (.getfield 305, 3) := by decide +kernel
theorem d_M_readsList_73 : decode (rm_code mM_readsList) 73 = .ok (.iload_n 1, 1) := by decide +kernel
theorem d_M_readsList_74 : decode (rm_code mM_readsList) 74 = .ok (.iaload, 1) := by decide +kernel
theorem d_M_readsList_75 : decode (rm_code mM_readsList) 75 = .ok (.if_icmp .ne (-73), 3) := by decide +kernel
theorem d_M_readsList_78 : decode (rm_code mM_readsList) 78 = .ok (.aload_n 0, 1) := by decide +kernel
theorem d_M_readsList_79 : decode (rm_code mM_readsList) 79 = .ok (.getfield 302, 3) := by decide +kernel
theorem d_M_readsList_82 : decode (rm_code mM_readsList) 82 = .ok (.iload_n 1, 1) := by decide +kernel
theorem d_M_readsList_83 : decode (rm_code mM_readsList) 83 = .ok (.iaload, 1) := by decide +kernel
theorem d_M_readsList_84 : decode (rm_code mM_readsList) 84 = .ok (.iconst 3, 1) := by decide +kernel
theorem d_M_readsList_85 : decode (rm_code mM_readsList) 85 = .ok (.if_icmp .ne (-83), 3) := by decide +kernel
theorem d_M_readsList_88 : decode (rm_code mM_readsList) 88 = .ok (.aload_n 0, 1) := by decide +kernel
theorem d_M_readsList_89 : decode (rm_code mM_readsList) 89 = .ok (.iconst 1, 1) := by decide +kernel
theorem d_M_readsList_90 : decode (rm_code mM_readsList) 90 = .ok (.putfield 374, 3) := by decide +kernel
theorem d_M_readsList_93 : decode (rm_code mM_readsList) 93 = .ok (.iconst 0, 1) := by decide +kernel
theorem d_M_readsList_94 : decode (rm_code mM_readsList) 94 = .ok (.istore_n 3, 1) := by decide +kernel
theorem d_M_readsList_95 : decode (rm_code mM_readsList) 95 = .ok (.goto (-93), 3) := by decide +kernel
theorem d_M_readsList_98 : decode (rm_code mM_readsList) 98 = .ok (.aload_n 0, 1) := by decide +kernel
theorem d_M_readsList_99 : decode (rm_code mM_readsList) 99 = .ok (.getfield 302, 3) := by decide +kernel
theorem d_M_readsList_102 : decode (rm_code mM_readsList) 102 = .ok (.iload_n 1, 1) := by decide +kernel
theorem d_M_readsList_103 : decode (rm_code mM_readsList) 103 = .ok (.iaload, 1) := by decide +kernel
theorem d_M_readsList_104 : decode (rm_code mM_readsList) 104 = .ok (.iconst 3, 1) := by decide +kernel
theorem d_M_readsList_105 : decode (rm_code mM_readsList) 105 = .ok (.if_icmp .ne (8), 3) := by decide +kernel
theorem d_M_readsList_108 : decode (rm_code mM_readsList) 108 = .ok (.iconst 0, 1) := by decide +kernel
theorem d_M_readsList_109 : decode (rm_code mM_readsList) 109 = .ok (.istore_n 3, 1) := by decide +kernel
theorem d_M_readsList_110 : decode (rm_code mM_readsList) 110 = .ok (.goto (-108), 3) := by decide +kernel
theorem d_M_readsList_113 : decode (rm_code mM_readsList) 113 = .ok (.aload_n 0, 1) := by decide +kernel
theorem d_M_readsList_114 : decode (rm_code mM_readsList) 114 = .ok (.iconst 0, 1) := by decide +kernel
theorem d_M_readsList_115 : decode (rm_code mM_readsList) 115 = .ok (.putfield 401, 3) := by decide +kernel
theorem d_M_readsList_118 : decode (rm_code mM_readsList) 118 = .ok (.aload_n 0, 1) := by decide +kernel
theorem d_M_readsList_119 : decode (rm_code mM_readsList) 119 = .ok (.getfield 302, 3) := by decide +kernel
theorem d_M_readsList_122 : decode (rm_code mM_readsList) 122 = .ok (.iload_n 1, 1) := by decide +kernel
theorem d_M_readsList_123 : decode (rm_code mM_readsList) 123 = .ok (.iaload, 1) := by decide +kernel
theorem d_M_readsList_124 : decode (rm_code mM_readsList) 124 = .ok (.ifCond .ne (11), 3) := by decide +kernel
theorem d_M_readsList_127 : decode (rm_code mM_readsList) 127 = .ok (.aload_n 0, 1) := by decide +kernel
theorem d_M_readsList_128 : decode (rm_code mM_readsList) 128 = .ok (.iload_n 1, 1) := by decide +kernel
theorem d_M_readsList_129 : decode (rm_code mM_readsList) 129 = .ok (.invokevirtual 496, 3) := by decide +kernel
theorem d_M_readsList_132 : decode (rm_code mM_readsList) 132 = .ok (.goto (8), 3) := by decide +kernel
theorem d_M_readsList_135 : decode (rm_code mM_readsList) 135 = .ok (.aload_n 0, 1) := by decide +kernel
theorem d_M_readsList_136 : decode (rm_code mM_readsList) 136 = .ok (.iload_n 1, 1) := by decide +kernel
theorem d_M_readsList_137 : decode (rm_code mM_readsList) 137 = .ok (.invokevirtual 499, 3) := by decide +kernel
theorem d_M_readsList_140 : decode (rm_code mM_readsList) 140 = .ok (.istore 4, 2) := by decide +kernel
theorem d_M_readsList_142 : decode (rm_code mM_readsList) 142 = .ok (.iload 4, 2) := by decide +kernel
theorem d_M_readsList_144 : decode (rm_code mM_readsList) 144 = .ok (.ifCond .eq (13), 3) := by decide +kernel
theorem d_M_readsList_147 : decode (rm_code mM_readsList) 147 = .ok (.aload_n 0, 1) := by decide +kernel
theorem d_M_readsList_148 : decode (rm_code mM_readsList) 148 = .ok (.getfield 248, 3) := by decide +kernel
theorem d_M_readsList_151 : decode (rm_code mM_readsList) 151 = .ok (.iload_n 1, 1) := by decide +kernel
theorem d_M_readsList_152 : decode (rm_code mM_readsList) 152 = .ok (.iconst 0, 1) := by decide +kernel
theorem d_M_readsList_153 : decode (rm_code mM_readsList) 153 = .ok (.iastore, 1) := by decide +kernel
theorem d_M_readsList_154 : decode (rm_code mM_readsList) 154 = .ok (.iload 4, 2) := by decide +kernel
theorem d_M_readsList_156 : decode (rm_code mM_readsList) 156 = .ok (.ireturn, 1) := by decide +kernel
theorem d_M_readsList_157 : decode (rm_code mM_readsList) 157 = .ok (.iconst 0, 1) := by decide +kernel
theorem d_M_readsList_158 : decode (rm_code mM_readsList) 158 = .ok (.istore 5, 2) := by decide +kernel
theorem d_M_readsList_160 : decode (rm_code mM_readsList) 160 = .ok (.iload 5, 2) := by decide +kernel
theorem d_M_readsList_162 : decode (rm_code mM_readsList) 162 = .ok (.aload_n 0, 1) := by decide +kernel
theorem d_M_readsList_163 : decode (rm_code mM_readsList) 163 = .ok (.getfield 401, 3) := by decide +kernel
theorem d_M_readsList_166 : decode (rm_code mM_readsList) 166 = .ok (.if_icmp .ge (28), 3) := by decide +kernel
theorem d_M_readsList_169 : decode (rm_code mM_readsList) 169 = .ok (.aload_n 0, 1) := by decide +kernel
theorem d_M_readsList_170 : decode (rm_code mM_readsList) 170 = .ok (.getfield 493, 3) := by decide +kernel
theorem d_M_readsList_173 : decode (rm_code mM_readsList) 173 = .ok (.bipush (64), 2) := by decide +kernel
theorem d_M_readsList_175 : decode (rm_code mM_readsList) 175 = .ok (.iload_n 1, 1) := by decide +kernel
theorem d_M_readsList_176 : decode (rm_code mM_readsList) 176 = .ok (.imul, 1) := by decide +kernel
theorem d_M_readsList_177 : decode (rm_code mM_readsList) 177 = .ok (.iload 5, 2) := by decide +kernel
theorem d_M_readsList_179 : decode (rm_code mM_readsList) 179 = .ok (.iadd, 1) := by decide +kernel
theorem d_M_readsList_180 : decode (rm_code mM_readsList) 180 = .ok (.aload_n 0, 1) := by decide +kernel
theorem d_M_readsList_181 : decode (rm_code mM_readsList) 181 = .ok (.getfield 398, 3) := by decide +kernel
theorem d_M_readsList_184 : decode (rm_code mM_readsList) 184 = .ok (.iload 5, 2) := by decide +kernel
theorem d_M_readsList_186 : decode (rm_code mM_readsList) 186 = .ok (.iaload, 1) := by decide +kernel
theorem d_M_readsList_187 : decode (rm_code mM_readsList) 187 = .ok (.iastore, 1) := by decide +kernel
theorem d_M_readsList_188 : decode (rm_code mM_readsList) 188 = .ok (.iinc 5 (1), 3) := by decide +kernel
theorem d_M_readsList_191 : decode (rm_code mM_readsList) 191 = .ok (.goto (-31), 3) := by decide +kernel
theorem d_M_readsList_194 : decode (rm_code mM_readsList) 194 = .ok (.aload_n 0, 1) := by decide +kernel
theorem d_M_readsList_195 : decode (rm_code mM_readsList) 195 = .ok (.getfield 305, 3) := by decide +kernel
theorem d_M_readsList_198 : decode (rm_code mM_readsList) 198 = .ok (.iload_n 1, 1) := by decide +kernel
theorem d_M_readsList_199 : decode (rm_code mM_readsList) 199 = .ok (.aload_n 0, 1) := by decide +kernel
theorem d_M_readsList_200 : decode (rm_code mM_readsList) 200 = .ok (.getfield 401, 3) := by decide +kernel
theorem d_M_readsList_203 : decode (rm_code mM_readsList) 203 = .ok (.iastore, 1) := by decide +kernel
theorem d_M_readsList_204 : decode (rm_code mM_readsList) 204 = .ok (.aload_n 0, 1) := by decide +kernel
theorem d_M_readsList_205 : decode (rm_code mM_readsList) 205 = .ok (.getfield 308, 3) := by decide +kernel
theorem d_M_readsList_208 : decode (rm_code mM_readsList) 208 = .ok (.iload_n 1, 1) := by decide +kernel
theorem d_M_readsList_209 : decode (rm_code mM_readsList) 209 = .ok (.iconst 0, 1) := by decide +kernel
theorem d_M_readsList_210 : decode (rm_code mM_readsList) 210 = .ok (.iastore, 1) := by decide +kernel
theorem d_M_readsList_211 : decode (rm_code mM_readsList) 211 = .ok (.goto (-209), 3) := by decide +kernel
theorem d_M_readsList_214 : decode (rm_code mM_readsList) 214 = .ok (.iconst 0, 1) := by decide +kernel
theorem d_M_readsList_215 : decode (rm_code mM_readsList) 215 = .ok (.ireturn, 1) := by decide +kernel
theorem p_M_readsList_0 {S : rz_S} {K : Int32 → rz_S → Prop} {a1 : Int32} {a2 : Int32} (w : rz mM_readsList 2 [(0, .ref 116), (1, .int a1), (2, .int a2), (3, .int 1)] [] S (rz_i K)) : rz mM_readsList 0 [(0, .ref 116), (1, .int a1), (2, .int a2)] [] S (rz_i K) := by
  refine rz_iconst (v := 1) d_M_readsList_0 (by decide) ?_
  refine rz_pure (pc' := 2) (l' := [(3, .int 1), (0, .ref 116), (1, .int a1), (2, .int a2)]) d_M_readsList_1 rfl ?_
  exact rz_pick (ks := [0, 1, 2, 3]) (l := [(0, .ref 116), (1, .int a1), (2, .int a2), (3, .int 1)]) rfl rfl (by decide) rfl w
theorem p_M_readsList_2 {S : rz_S} {K : Int32 → rz_S → Prop} {a1 : Int32} {a2 : Int32} {a3 : Int32} (w : ((a3 = 0 → K 0 S) ∧ (¬ a3 = 0 → ((a2 ≤ S.2 116 67 → K 0 S) ∧ (¬ a2 ≤ S.2 116 67 → rx_in a1 15 = true ∧ ((S.1 145 a1.toNatClampNeg ≤ S.1 146 a1.toNatClampNeg → ((S.1 139 a1.toNatClampNeg = 3 → rz mM_readsList 2 [(0, .ref 116), (1, .int a1), (2, .int a2), (3, .int 0)] [] S (rz_i K)) ∧ (¬ S.1 139 a1.toNatClampNeg = 3 → ((S.1 139 a1.toNatClampNeg = 0 → rz_ev mM_title [.ref 116, .int a1] (rz_uI S 116 70 0) (rz_i (fun xq7 Sq7 => rz mM_readsList 140 [(0, .ref 116), (1, .int a1), (2, .int a2), (3, .int a3)] [.int xq7] Sq7 (rz_i K)))) ∧ (¬ S.1 139 a1.toNatClampNeg = 0 → rz_ev mM_next [.ref 116, .int a1] (rz_uI S 116 70 0) (rz_i (fun xq6 Sq6 => rz mM_readsList 140 [(0, .ref 116), (1, .int a1), (2, .int a2), (3, .int a3)] [.int xq6] Sq6 (rz_i K)))))))) ∧ (¬ S.1 145 a1.toNatClampNeg ≤ S.1 146 a1.toNatClampNeg → rx_in ((64 * a1) + (S.1 146 a1.toNatClampNeg)) 960 = true ∧ rz_ev mM_gives [.ref 116, .int (S.1 148 (((64 * a1) + (S.1 146 a1.toNatClampNeg)).toNatClampNeg))] S (rz_v (fun Sq8 => (((upd (Sq8.1 146) a1.toNatClampNeg ((Sq8.1 146 a1.toNatClampNeg) + 1)) a1.toNatClampNeg = Sq8.1 145 a1.toNatClampNeg → ((Sq8.1 139 a1.toNatClampNeg = 3 → rz mM_readsList 2 [(0, .ref 116), (1, .int a1), (2, .int a2), (3, .int 0)] [] (rz_uI (rz_fA Sq8 146 (upd (Sq8.1 146) a1.toNatClampNeg ((Sq8.1 146 a1.toNatClampNeg) + 1))) 116 68 1) (rz_i K)) ∧ (¬ Sq8.1 139 a1.toNatClampNeg = 3 → rz mM_readsList 2 [(0, .ref 116), (1, .int a1), (2, .int a2), (3, .int a3)] [] (rz_fA Sq8 146 (upd (Sq8.1 146) a1.toNatClampNeg ((Sq8.1 146 a1.toNatClampNeg) + 1))) (rz_i K)))) ∧ (¬ (upd (Sq8.1 146) a1.toNatClampNeg ((Sq8.1 146 a1.toNatClampNeg) + 1)) a1.toNatClampNeg = Sq8.1 145 a1.toNatClampNeg → rz mM_readsList 2 [(0, .ref 116), (1, .int a1), (2, .int a2), (3, .int a3)] [] (rz_fA Sq8 146 (upd (Sq8.1 146) a1.toNatClampNeg ((Sq8.1 146 a1.toNatClampNeg) + 1))) (rz_i K)))))))))))) : rz mM_readsList 2 [(0, .ref 116), (1, .int a1), (2, .int a2), (3, .int a3)] [] S (rz_i K) := by
  refine rz_pure (pc' := 3) d_M_readsList_2 rfl ?_
  refine rz_ifeq (tgt := 214) d_M_readsList_3 rfl (fun b1 => ?_) (fun b1 => ?_)
  · skip
    refine rz_iconst (v := 0) d_M_readsList_214 (by decide) ?_
    exact rz_ireti d_M_readsList_215 rfl rfl (w.1 b1)
  · skip
    refine rz_pure (pc' := 7) d_M_readsList_6 rfl ?_
    refine rz_getiv (v := S.2 116 67) d_M_readsList_7 f_12_371 rfl rfl rfl ?_
    refine rz_pure (pc' := 11) d_M_readsList_10 rfl ?_
    refine rz_icmpge (tgt := 214) d_M_readsList_11 rfl (fun b2 => ?_) (fun b2 => ?_)
    · skip
      refine rz_iconst (v := 0) d_M_readsList_214 (by decide) ?_
      exact rz_ireti d_M_readsList_215 rfl rfl ((w.2 b1).1 b2)
    · skip
      refine rz_pure (pc' := 15) d_M_readsList_14 rfl ?_
      refine rz_getr d_M_readsList_15 f_12_308 rfl rfl ?_
      refine rz_pure (pc' := 19) d_M_readsList_18 rfl ?_
      refine rz_ialdv (F := S.1 146) (i := a1.toNatClampNeg) d_M_readsList_19 rfl ((w.2 b1).2 b2).1 rfl rfl ?_
      refine rz_pure (pc' := 21) d_M_readsList_20 rfl ?_
      refine rz_getr d_M_readsList_21 f_12_305 rfl rfl ?_
      refine rz_pure (pc' := 25) d_M_readsList_24 rfl ?_
      refine rz_ialdv (F := S.1 145) (i := a1.toNatClampNeg) d_M_readsList_25 rfl ((w.2 b1).2 b2).1 rfl rfl ?_
      refine rz_icmpge (tgt := 98) d_M_readsList_26 rfl (fun b3 => ?_) (fun b3 => ?_)
      · skip
        refine rz_pure (pc' := 99) d_M_readsList_98 rfl ?_
        refine rz_getr d_M_readsList_99 f_12_302 rfl rfl ?_
        refine rz_pure (pc' := 103) d_M_readsList_102 rfl ?_
        refine rz_ialdv (F := S.1 139) (i := a1.toNatClampNeg) d_M_readsList_103 rfl ((w.2 b1).2 b2).1 rfl rfl ?_
        refine rz_iconst (v := 3) d_M_readsList_104 (by decide) ?_
        refine rz_icmpne (tgt := 113) d_M_readsList_105 rfl (fun b4 => ?_) (fun b4 => ?_)
        · skip
          refine rz_pure (pc' := 114) d_M_readsList_113 rfl ?_
          refine rz_iconst (v := 0) d_M_readsList_114 (by decide) ?_
          refine rz_puti d_M_readsList_115 f_12_401 rfl rfl rfl ?_
          refine rz_pure (pc' := 119) d_M_readsList_118 rfl ?_
          refine rz_getr d_M_readsList_119 f_12_302 rfl rfl ?_
          refine rz_pure (pc' := 123) d_M_readsList_122 rfl ?_
          refine rz_ialdv (F := S.1 139) (i := a1.toNatClampNeg) d_M_readsList_123 rfl ((w.2 b1).2 b2).1 rfl rfl ?_
          refine rz_ifne (tgt := 135) d_M_readsList_124 rfl (fun b5 => ?_) (fun b5 => ?_)
          · skip
            refine rz_pure (pc' := 136) d_M_readsList_135 rfl ?_
            refine rz_pure (pc' := 137) d_M_readsList_136 rfl ?_
            refine rz_callVi (t := [.int a1]) d_M_readsList_137 w_12_499 rfl rfl rfl (((((w.2 b1).2 b2).2.1 b3).2 b4).2 b5) (fun xq6 Sq6 q6 => ?_)
            exact rz_pick (ks := [0, 1, 2, 3]) (l := [(0, .ref 116), (1, .int a1), (2, .int a2), (3, .int a3)]) rfl rfl (by decide) rfl q6
          · skip
            refine rz_pure (pc' := 128) d_M_readsList_127 rfl ?_
            refine rz_pure (pc' := 129) d_M_readsList_128 rfl ?_
            refine rz_callVi (t := [.int a1]) d_M_readsList_129 w_12_496 rfl rfl rfl (((((w.2 b1).2 b2).2.1 b3).2 b4).1 b5) (fun xq7 Sq7 q7 => ?_)
            refine rz_pure (pc' := 140) d_M_readsList_132 rfl ?_
            exact rz_pick (ks := [0, 1, 2, 3]) (l := [(0, .ref 116), (1, .int a1), (2, .int a2), (3, .int a3)]) rfl rfl (by decide) rfl q7
        · skip
          refine rz_iconst (v := 0) d_M_readsList_108 (by decide) ?_
          refine rz_pure (pc' := 110) (l' := [(3, .int 0), (0, .ref 116), (1, .int a1), (2, .int a2)]) d_M_readsList_109 rfl ?_
          refine rz_pure (pc' := 2) d_M_readsList_110 rfl ?_
          exact rz_pick (ks := [0, 1, 2, 3]) (l := [(0, .ref 116), (1, .int a1), (2, .int a2), (3, .int 0)]) rfl rfl (by decide) rfl ((((w.2 b1).2 b2).2.1 b3).1 b4)
      · skip
        refine rz_pure (pc' := 30) d_M_readsList_29 rfl ?_
        refine rz_pure (pc' := 31) d_M_readsList_30 rfl ?_
        refine rz_getr d_M_readsList_31 f_12_493 rfl rfl ?_
        refine rz_bipush (v := 64) d_M_readsList_34 (by decide) ?_
        refine rz_pure (pc' := 37) d_M_readsList_36 rfl ?_
        refine rz_imul d_M_readsList_37 ?_
        refine rz_pure (pc' := 39) d_M_readsList_38 rfl ?_
        refine rz_getr d_M_readsList_39 f_12_308 rfl rfl ?_
        refine rz_pure (pc' := 43) d_M_readsList_42 rfl ?_
        refine rz_ialdv (F := S.1 146) (i := a1.toNatClampNeg) d_M_readsList_43 rfl ((w.2 b1).2 b2).1 rfl rfl ?_
        refine rz_iadd d_M_readsList_44 ?_
        refine rz_ialdv (F := S.1 148) (i := ((64 * a1) + (S.1 146 a1.toNatClampNeg)).toNatClampNeg) d_M_readsList_45 rfl (((w.2 b1).2 b2).2.2 b3).1 rfl rfl ?_
        refine rz_callVv (t := [.int (S.1 148 (((64 * a1) + (S.1 146 a1.toNatClampNeg)).toNatClampNeg))]) d_M_readsList_46 w_12_395 rfl rfl rfl (((w.2 b1).2 b2).2.2 b3).2 (fun Sq8 q8 => ?_)
        refine rz_pure (pc' := 50) d_M_readsList_49 rfl ?_
        refine rz_getr d_M_readsList_50 f_12_308 rfl rfl ?_
        refine rz_pure (pc' := 54) d_M_readsList_53 rfl ?_
        refine rz_pure (pc' := 55) d_M_readsList_54 rfl ?_
        refine rz_getr d_M_readsList_55 f_12_308 rfl rfl ?_
        refine rz_pure (pc' := 59) d_M_readsList_58 rfl ?_
        refine rz_ialdv (F := Sq8.1 146) (i := a1.toNatClampNeg) d_M_readsList_59 rfl ((w.2 b1).2 b2).1 rfl rfl ?_
        refine rz_iconst (v := 1) d_M_readsList_60 (by decide) ?_
        refine rz_iadd d_M_readsList_61 ?_
        refine rz_iastv (F := Sq8.1 146) (i := a1.toNatClampNeg) d_M_readsList_62 rfl ((w.2 b1).2 b2).1 rfl rfl ?_
        refine rz_pure (pc' := 64) d_M_readsList_63 rfl ?_
        refine rz_getr d_M_readsList_64 f_12_308 rfl rfl ?_
        refine rz_pure (pc' := 68) d_M_readsList_67 rfl ?_
        refine rz_ialdv (F := upd (Sq8.1 146) a1.toNatClampNeg ((Sq8.1 146 a1.toNatClampNeg) + 1)) (i := a1.toNatClampNeg) d_M_readsList_68 rfl ((w.2 b1).2 b2).1 rz_fA_s rfl ?_
        refine rz_pure (pc' := 70) d_M_readsList_69 rfl ?_
        refine rz_getr d_M_readsList_70 f_12_305 rfl rfl ?_
        refine rz_pure (pc' := 74) d_M_readsList_73 rfl ?_
        refine rz_ialdv (F := Sq8.1 145) (i := a1.toNatClampNeg) d_M_readsList_74 rfl ((w.2 b1).2 b2).1 ((rz_fA_n (by omega)).trans rfl) rfl ?_
        refine rz_icmpne (tgt := 2) d_M_readsList_75 rfl (fun b9 => ?_) (fun b9 => ?_)
        · skip
          exact rz_pick (ks := [0, 1, 2, 3]) (l := [(0, .ref 116), (1, .int a1), (2, .int a2), (3, .int a3)]) rfl rfl (by decide) rfl (q8.2 b9)
        · skip
          refine rz_pure (pc' := 79) d_M_readsList_78 rfl ?_
          refine rz_getr d_M_readsList_79 f_12_302 rfl rfl ?_
          refine rz_pure (pc' := 83) d_M_readsList_82 rfl ?_
          refine rz_ialdv (F := Sq8.1 139) (i := a1.toNatClampNeg) d_M_readsList_83 rfl ((w.2 b1).2 b2).1 ((rz_fA_n (by omega)).trans rfl) rfl ?_
          refine rz_iconst (v := 3) d_M_readsList_84 (by decide) ?_
          refine rz_icmpne (tgt := 2) d_M_readsList_85 rfl (fun b10 => ?_) (fun b10 => ?_)
          · skip
            exact rz_pick (ks := [0, 1, 2, 3]) (l := [(0, .ref 116), (1, .int a1), (2, .int a2), (3, .int a3)]) rfl rfl (by decide) rfl ((q8.1 b9).2 b10)
          · skip
            refine rz_pure (pc' := 89) d_M_readsList_88 rfl ?_
            refine rz_iconst (v := 1) d_M_readsList_89 (by decide) ?_
            refine rz_puti d_M_readsList_90 f_12_374 rfl rfl rfl ?_
            refine rz_iconst (v := 0) d_M_readsList_93 (by decide) ?_
            refine rz_pure (pc' := 95) (l' := [(3, .int 0), (0, .ref 116), (1, .int a1), (2, .int a2)]) d_M_readsList_94 rfl ?_
            refine rz_pure (pc' := 2) d_M_readsList_95 rfl ?_
            exact rz_pick (ks := [0, 1, 2, 3]) (l := [(0, .ref 116), (1, .int a1), (2, .int a2), (3, .int 0)]) rfl rfl (by decide) rfl ((q8.1 b9).1 b10)
theorem p_M_readsList_140 {S : rz_S} {K : Int32 → rz_S → Prop} {a1 : Int32} {a2 : Int32} {a3 : Int32} {s0 : Int32} (w : ((s0 = 0 → rz mM_readsList 160 [(0, .ref 116), (1, .int a1), (2, .int a2), (3, .int a3), (5, .int 0)] [] S (rz_i K)) ∧ (¬ s0 = 0 → rx_in a1 15 = true ∧ K s0 (rz_fA S 126 (upd (S.1 126) a1.toNatClampNeg 0))))) : rz mM_readsList 140 [(0, .ref 116), (1, .int a1), (2, .int a2), (3, .int a3)] [.int s0] S (rz_i K) := by
  refine rz_pure (pc' := 142) (l' := [(4, .int s0), (0, .ref 116), (1, .int a1), (2, .int a2), (3, .int a3)]) d_M_readsList_140 rfl ?_
  refine rz_pure (pc' := 144) d_M_readsList_142 rfl ?_
  refine rz_ifeq (tgt := 157) d_M_readsList_144 rfl (fun b1 => ?_) (fun b1 => ?_)
  · skip
    refine rz_iconst (v := 0) d_M_readsList_157 (by decide) ?_
    refine rz_pure (pc' := 160) (l' := [(5, .int 0), (4, .int s0), (0, .ref 116), (1, .int a1), (2, .int a2), (3, .int a3)]) d_M_readsList_158 rfl ?_
    exact rz_pick (ks := [0, 1, 2, 3, 5]) (l := [(0, .ref 116), (1, .int a1), (2, .int a2), (3, .int a3), (5, .int 0)]) rfl rfl (by decide) rfl (w.1 b1)
  · skip
    refine rz_pure (pc' := 148) d_M_readsList_147 rfl ?_
    refine rz_getr d_M_readsList_148 f_12_248 rfl rfl ?_
    refine rz_pure (pc' := 152) d_M_readsList_151 rfl ?_
    refine rz_iconst (v := 0) d_M_readsList_152 (by decide) ?_
    refine rz_iastv (F := S.1 126) (i := a1.toNatClampNeg) d_M_readsList_153 rfl (w.2 b1).1 rfl rfl ?_
    refine rz_pure (pc' := 156) d_M_readsList_154 rfl ?_
    exact rz_ireti d_M_readsList_156 rfl rfl (w.2 b1).2
theorem p_M_readsList_160 {S : rz_S} {K : Int32 → rz_S → Prop} {a1 : Int32} {a2 : Int32} {a3 : Int32} {a5 : Int32} (w : ((S.2 116 70 ≤ a5 → rx_in a1 15 = true ∧ rz mM_readsList 2 [(0, .ref 116), (1, .int a1), (2, .int a2), (3, .int a3)] [] (rz_fA (rz_fA S 145 (upd (S.1 145) a1.toNatClampNeg (S.2 116 70))) 146 (upd (S.1 146) a1.toNatClampNeg 0)) (rz_i K)) ∧ (¬ S.2 116 70 ≤ a5 → rx_in a5 40 = true ∧ rx_in ((64 * a1) + a5) 960 = true ∧ rz mM_readsList 160 [(0, .ref 116), (1, .int a1), (2, .int a2), (3, .int a3), (5, .int (a5 + 1))] [] (rz_fA S 148 (upd (S.1 148) (((64 * a1) + a5).toNatClampNeg) (S.1 153 a5.toNatClampNeg))) (rz_i K)))) : rz mM_readsList 160 [(0, .ref 116), (1, .int a1), (2, .int a2), (3, .int a3), (5, .int a5)] [] S (rz_i K) := by
  refine rz_pure (pc' := 162) d_M_readsList_160 rfl ?_
  refine rz_pure (pc' := 163) d_M_readsList_162 rfl ?_
  refine rz_getiv (v := S.2 116 70) d_M_readsList_163 f_12_401 rfl rfl rfl ?_
  refine rz_icmpge (tgt := 194) d_M_readsList_166 rfl (fun b1 => ?_) (fun b1 => ?_)
  · skip
    refine rz_pure (pc' := 195) d_M_readsList_194 rfl ?_
    refine rz_getr d_M_readsList_195 f_12_305 rfl rfl ?_
    refine rz_pure (pc' := 199) d_M_readsList_198 rfl ?_
    refine rz_pure (pc' := 200) d_M_readsList_199 rfl ?_
    refine rz_getiv (v := S.2 116 70) d_M_readsList_200 f_12_401 rfl rfl rfl ?_
    refine rz_iastv (F := S.1 145) (i := a1.toNatClampNeg) d_M_readsList_203 rfl (w.1 b1).1 rfl rfl ?_
    refine rz_pure (pc' := 205) d_M_readsList_204 rfl ?_
    refine rz_getr d_M_readsList_205 f_12_308 rfl rfl ?_
    refine rz_pure (pc' := 209) d_M_readsList_208 rfl ?_
    refine rz_iconst (v := 0) d_M_readsList_209 (by decide) ?_
    refine rz_iastv (F := S.1 146) (i := a1.toNatClampNeg) d_M_readsList_210 rfl (w.1 b1).1 ((rz_fA_n (by omega)).trans rfl) rfl ?_
    refine rz_pure (pc' := 2) d_M_readsList_211 rfl ?_
    exact rz_pick (ks := [0, 1, 2, 3]) (l := [(0, .ref 116), (1, .int a1), (2, .int a2), (3, .int a3)]) rfl rfl (by decide) rfl (w.1 b1).2
  · skip
    refine rz_pure (pc' := 170) d_M_readsList_169 rfl ?_
    refine rz_getr d_M_readsList_170 f_12_493 rfl rfl ?_
    refine rz_bipush (v := 64) d_M_readsList_173 (by decide) ?_
    refine rz_pure (pc' := 176) d_M_readsList_175 rfl ?_
    refine rz_imul d_M_readsList_176 ?_
    refine rz_pure (pc' := 179) d_M_readsList_177 rfl ?_
    refine rz_iadd d_M_readsList_179 ?_
    refine rz_pure (pc' := 181) d_M_readsList_180 rfl ?_
    refine rz_getr d_M_readsList_181 f_12_398 rfl rfl ?_
    refine rz_pure (pc' := 186) d_M_readsList_184 rfl ?_
    refine rz_ialdv (F := S.1 153) (i := a5.toNatClampNeg) d_M_readsList_186 rfl (w.2 b1).1 rfl rfl ?_
    refine rz_iastv (F := S.1 148) (i := ((64 * a1) + a5).toNatClampNeg) d_M_readsList_187 rfl (w.2 b1).2.1 rfl rfl ?_
    refine rz_pure (pc' := 191) (l' := [(5, .int (a5 + 1)), (0, .ref 116), (1, .int a1), (2, .int a2), (3, .int a3)]) d_M_readsList_188 rfl ?_
    refine rz_pure (pc' := 160) d_M_readsList_191 rfl ?_
    exact rz_pick (ks := [0, 1, 2, 3, 5]) (l := [(0, .ref 116), (1, .int a1), (2, .int a2), (3, .int a3), (5, .int (a5 + 1))]) rfl rfl (by decide) rfl (w.2 b1).2.2
theorem d_M_title_0 : decode (rm_code mM_title) 0 = .ok (.aload_n 0, 1) := by decide +kernel
theorem d_M_title_1 : decode (rm_code mM_title) 1 = .ok (.invokevirtual 180, 3) := by decide +kernel
theorem d_M_title_4 : decode (rm_code mM_title) 4 = .ok (.istore_n 2, 1) := by decide +kernel
theorem d_M_title_5 : decode (rm_code mM_title) 5 = .ok (.iload_n 2, 1) := by decide +kernel
theorem d_M_title_6 : decode (rm_code mM_title) 6 = .ok (.ifCond .eq (5), 3) := by decide +kernel
theorem d_M_title_9 : decode (rm_code mM_title) 9 = .ok (.iload_n 2, 1) := by decide +kernel
theorem d_M_title_10 : decode (rm_code mM_title) 10 = .ok (.ireturn, 1) := by decide +kernel
theorem d_M_title_11 : decode (rm_code mM_title) 11 = .ok (.aload_n 0, 1) := by decide +kernel
theorem d_M_title_12 : decode (rm_code mM_title) 12 = .ok (.bipush (34), 2) := by decide +kernel
theorem d_M_title_14 : decode (rm_code mM_title) 14 = .ok (.invokevirtual 406, 3) := by decide +kernel
theorem d_M_title_17 : decode (rm_code mM_title) 17 = .ok (.bipush (28), 2) := by decide +kernel
theorem d_M_title_19 : decode (rm_code mM_title) 19 = .ok (.istore_n 3, 1) := by decide +kernel
theorem d_M_title_20 : decode (rm_code mM_title) 20 = .ok (.iload_n 3, 1) := by decide +kernel
theorem d_M_title_21 : decode (rm_code mM_title) 21 = .ok (.bipush (38), 2) := by decide +kernel
theorem d_M_title_23 : decode (rm_code mM_title) 23 = .ok (.if_icmp .ge (36), 3) := by decide +kernel
theorem d_M_title_26 : decode (rm_code mM_title) 26 = .ok (.aload_n 0, 1) := by decide +kernel
theorem d_M_title_27 : decode (rm_code mM_title) 27 = .ok (.aload_n 0, 1) := by decide +kernel
theorem d_M_title_28 : decode (rm_code mM_title) 28 = .ok (.getfield 145, 3) := by decide +kernel
theorem d_M_title_31 : decode (rm_code mM_title) 31 = .ok (.iload_n 3, 1) := by decide +kernel
theorem d_M_title_32 : decode (rm_code mM_title) 32 = .ok (.iaload, 1) := by decide +kernel
theorem d_M_title_33 : decode (rm_code mM_title) 33 = .ok (.sipush (160), 3) := by decide +kernel
theorem d_M_title_36 : decode (rm_code mM_title) 36 = .ok (.if_icmp .ne (8), 3) := by decide +kernel
theorem d_M_title_39 : decode (rm_code mM_title) 39 = .ok (.bipush (32), 2) := by decide +kernel
theorem d_M_title_41 : decode (rm_code mM_title) 41 = .ok (.goto (9), 3) := by decide +kernel
theorem d_M_title_44 : decode (rm_code mM_title) 44 = .ok (.aload_n 0, 1) := by decide +kernel
theorem d_M_title_45 : decode (rm_code mM_title) 45 = .ok (.getfield 145, 3) := by decide +kernel
theorem d_M_title_48 : decode (rm_code mM_title) 48 = .ok (.iload_n 3, 1) := by decide +kernel
theorem d_M_title_49 : decode (rm_code mM_title) 49 = .ok (.iaload, 1) := by decide +kernel
theorem d_M_title_50 : decode (rm_code mM_title) 50 = .ok (.invokevirtual 406, 3) := by decide +kernel
theorem d_M_title_53 : decode (rm_code mM_title) 53 = .ok (.iinc 3 (1), 3) := by decide +kernel
theorem d_M_title_56 : decode (rm_code mM_title) 56 = .ok (.goto (-36), 3) := by decide +kernel
theorem d_M_title_59 : decode (rm_code mM_title) 59 = .ok (.aload_n 0, 1) := by decide +kernel
theorem d_M_title_60 : decode (rm_code mM_title) 60 = .ok (.bipush (34), 2) := by decide +kernel
theorem d_M_title_62 : decode (rm_code mM_title) 62 = .ok (.invokevirtual 406, 3) := by decide +kernel
theorem d_M_title_65 : decode (rm_code mM_title) 65 = .ok (.aload_n 0, 1) := by decide +kernel
theorem d_M_title_66 : decode (rm_code mM_title) 66 = .ok (.bipush (32), 2) := by decide +kernel
theorem d_M_title_68 : decode (rm_code mM_title) 68 = .ok (.invokevirtual 406, 3) := by decide +kernel
theorem d_M_title_71 : decode (rm_code mM_title) 71 = .ok (.aload_n 0, 1) := by decide +kernel
theorem d_M_title_72 : decode (rm_code mM_title) 72 = .ok (.aload_n 0, 1) := by decide +kernel
theorem d_M_title_73 : decode (rm_code mM_title) 73 = .ok (.getfield 145, 3) := by decide +kernel
theorem d_M_title_76 : decode (rm_code mM_title) 76 = .ok (.bipush (38), 2) := by decide +kernel
theorem d_M_title_78 : decode (rm_code mM_title) 78 = .ok (.iaload, 1) := by decide +kernel
theorem d_M_title_79 : decode (rm_code mM_title) 79 = .ok (.invokevirtual 406, 3) := by decide +kernel
theorem d_M_title_82 : decode (rm_code mM_title) 82 = .ok (.aload_n 0, 1) := by decide +kernel
theorem d_M_title_83 : decode (rm_code mM_title) 83 = .ok (.aload_n 0, 1) := by decide +kernel
theorem d_M_title_84 : decode (rm_code mM_title) 84 = .ok (.getfield 145, 3) := by decide +kernel
theorem d_M_title_87 : decode (rm_code mM_title) 87 = .ok (.bipush (39), 2) := by decide +kernel
theorem d_M_title_89 : decode (rm_code mM_title) 89 = .ok (.iaload, 1) := by decide +kernel
theorem d_M_title_90 : decode (rm_code mM_title) 90 = .ok (.invokevirtual 406, 3) := by decide +kernel
theorem d_M_title_93 : decode (rm_code mM_title) 93 = .ok (.aload_n 0, 1) := by decide +kernel
theorem d_M_title_94 : decode (rm_code mM_title) 94 = .ok (.bipush (13), 2) := by decide +kernel
theorem d_M_title_96 : decode (rm_code mM_title) 96 = .ok (.invokevirtual 406, 3) := by decide +kernel
theorem d_M_title_99 : decode (rm_code mM_title) 99 = .ok (.aload_n 0, 1) := by decide +kernel
theorem d_M_title_100 : decode (rm_code mM_title) 100 = .ok (.getfield 302, 3) := by decide +kernel
theorem d_M_title_103 : decode (rm_code mM_title) 103 = .ok (.iload_n 1, 1) := by decide +kernel
theorem d_M_title_104 : decode (rm_code mM_title) 104 = .ok (.iconst 1, 1) := by decide +kernel
theorem d_M_title_105 : decode (rm_code mM_title) 105 = .ok (.iastore, 1) := by decide +kernel
theorem d_M_title_106 : decode (rm_code mM_title) 106 = .ok (.aload_n 0, 1) := by decide +kernel
theorem d_M_title_107 : decode (rm_code mM_title) 107 = .ok (.getfield 502, 3) := by decide +kernel
theorem d_M_title_110 : decode (rm_code mM_title) 110 = .ok (.iload_n 1, 1) := by decide +kernel
theorem d_M_title_111 : decode (rm_code mM_title) 111 = .ok (.bipush (7), 2) := by decide +kernel
theorem d_M_title_113 : decode (rm_code mM_title) 113 = .ok (.iastore, 1) := by decide +kernel
theorem d_M_title_114 : decode (rm_code mM_title) 114 = .ok (.aload_n 0, 1) := by decide +kernel
theorem d_M_title_115 : decode (rm_code mM_title) 115 = .ok (.getfield 505, 3) := by decide +kernel
theorem d_M_title_118 : decode (rm_code mM_title) 118 = .ok (.iload_n 1, 1) := by decide +kernel
theorem d_M_title_119 : decode (rm_code mM_title) 119 = .ok (.iconst 1, 1) := by decide +kernel
theorem d_M_title_120 : decode (rm_code mM_title) 120 = .ok (.iastore, 1) := by decide +kernel
theorem d_M_title_121 : decode (rm_code mM_title) 121 = .ok (.aload_n 0, 1) := by decide +kernel
theorem d_M_title_122 : decode (rm_code mM_title) 122 = .ok (.getfield 508, 3) := by decide +kernel
theorem d_M_title_125 : decode (rm_code mM_title) 125 = .ok (.iload_n 1, 1) := by decide +kernel
theorem d_M_title_126 : decode (rm_code mM_title) 126 = .ok (.iconst 1, 1) := by decide +kernel
theorem d_M_title_127 : decode (rm_code mM_title) 127 = .ok (.iastore, 1) := by decide +kernel
theorem d_M_title_128 : decode (rm_code mM_title) 128 = .ok (.aload_n 0, 1) := by decide +kernel
theorem d_M_title_129 : decode (rm_code mM_title) 129 = .ok (.getfield 511, 3) := by decide +kernel
theorem d_M_title_132 : decode (rm_code mM_title) 132 = .ok (.iload_n 1, 1) := by decide +kernel
theorem d_M_title_133 : decode (rm_code mM_title) 133 = .ok (.iconst 0, 1) := by decide +kernel
theorem d_M_title_134 : decode (rm_code mM_title) 134 = .ok (.iastore, 1) := by decide +kernel
theorem d_M_title_135 : decode (rm_code mM_title) 135 = .ok (.iconst 0, 1) := by decide +kernel
theorem d_M_title_136 : decode (rm_code mM_title) 136 = .ok (.ireturn, 1) := by decide +kernel
theorem p_M_title_0 {S : rz_S} {K : Int32 → rz_S → Prop} {a1 : Int32} (w : rz_ev mM_loads [.ref 116] S (rz_i (fun xq1 Sq1 => ((xq1 = 0 → rz_ev mM_says [.ref 116, .int 34] Sq1 (rz_v (fun Sq3 => rz mM_title 20 [(0, .ref 116), (1, .int a1), (3, .int 28)] [] Sq3 (rz_i K)))) ∧ (¬ xq1 = 0 → K xq1 Sq1))))) : rz mM_title 0 [(0, .ref 116), (1, .int a1)] [] S (rz_i K) := by
  refine rz_pure (pc' := 1) d_M_title_0 rfl ?_
  refine rz_callVi (t := []) d_M_title_1 w_12_180 rfl rfl rfl w (fun xq1 Sq1 q1 => ?_)
  refine rz_pure (pc' := 5) (l' := [(2, .int xq1), (0, .ref 116), (1, .int a1)]) d_M_title_4 rfl ?_
  refine rz_pure (pc' := 6) d_M_title_5 rfl ?_
  refine rz_ifeq (tgt := 11) d_M_title_6 rfl (fun b2 => ?_) (fun b2 => ?_)
  · skip
    refine rz_pure (pc' := 12) d_M_title_11 rfl ?_
    refine rz_bipush (v := 34) d_M_title_12 (by decide) ?_
    refine rz_callVv (t := [.int 34]) d_M_title_14 w_12_406 rfl rfl rfl (q1.1 b2) (fun Sq3 q3 => ?_)
    refine rz_bipush (v := 28) d_M_title_17 (by decide) ?_
    refine rz_pure (pc' := 20) (l' := [(3, .int 28), (2, .int xq1), (0, .ref 116), (1, .int a1)]) d_M_title_19 rfl ?_
    exact rz_pick (ks := [0, 1, 3]) (l := [(0, .ref 116), (1, .int a1), (3, .int 28)]) rfl rfl (by decide) rfl q3
  · skip
    refine rz_pure (pc' := 10) d_M_title_9 rfl ?_
    exact rz_ireti d_M_title_10 rfl rfl (q1.2 b2)
theorem p_M_title_20 {S : rz_S} {K : Int32 → rz_S → Prop} {a1 : Int32} {a3 : Int32} (w : ((38 ≤ a3 → rz_ev mM_says [.ref 116, .int 34] S (rz_v (fun Sq2 => rz_ev mM_says [.ref 116, .int 32] Sq2 (rz_v (fun Sq3 => rz_ev mM_says [.ref 116, .int (Sq3.1 123 38)] Sq3 (rz_v (fun Sq4 => rz_ev mM_says [.ref 116, .int (Sq4.1 123 39)] Sq4 (rz_v (fun Sq5 => rz_ev mM_says [.ref 116, .int 13] Sq5 (rz_v (fun Sq6 => rx_in a1 15 = true ∧ K 0 (rz_fA (rz_fA (rz_fA (rz_fA (rz_fA Sq6 139 (upd (Sq6.1 139) a1.toNatClampNeg 1)) 140 (upd (Sq6.1 140) a1.toNatClampNeg 7)) 141 (upd (Sq6.1 141) a1.toNatClampNeg 1)) 142 (upd (Sq6.1 142) a1.toNatClampNeg 1)) 143 (upd (Sq6.1 143) a1.toNatClampNeg 0))))))))))))) ∧ (¬ 38 ≤ a3 → rx_in a3 64 = true ∧ ((S.1 123 a3.toNatClampNeg = 160 → rz mM_title 50 [(0, .ref 116), (1, .int a1), (3, .int a3)] [.int 32, .ref 116] S (rz_i K)) ∧ (¬ S.1 123 a3.toNatClampNeg = 160 → rz mM_title 50 [(0, .ref 116), (1, .int a1), (3, .int a3)] [.int (S.1 123 a3.toNatClampNeg), .ref 116] S (rz_i K)))))) : rz mM_title 20 [(0, .ref 116), (1, .int a1), (3, .int a3)] [] S (rz_i K) := by
  refine rz_pure (pc' := 21) d_M_title_20 rfl ?_
  refine rz_bipush (v := 38) d_M_title_21 (by decide) ?_
  refine rz_icmpge (tgt := 59) d_M_title_23 rfl (fun b1 => ?_) (fun b1 => ?_)
  · skip
    refine rz_pure (pc' := 60) d_M_title_59 rfl ?_
    refine rz_bipush (v := 34) d_M_title_60 (by decide) ?_
    refine rz_callVv (t := [.int 34]) d_M_title_62 w_12_406 rfl rfl rfl (w.1 b1) (fun Sq2 q2 => ?_)
    refine rz_pure (pc' := 66) d_M_title_65 rfl ?_
    refine rz_bipush (v := 32) d_M_title_66 (by decide) ?_
    refine rz_callVv (t := [.int 32]) d_M_title_68 w_12_406 rfl rfl rfl q2 (fun Sq3 q3 => ?_)
    refine rz_pure (pc' := 72) d_M_title_71 rfl ?_
    refine rz_pure (pc' := 73) d_M_title_72 rfl ?_
    refine rz_getr d_M_title_73 f_12_145 rfl rfl ?_
    refine rz_bipush (v := 38) d_M_title_76 (by decide) ?_
    refine rz_ialdv (F := Sq3.1 123) (i := 38) d_M_title_78 rfl (by decide) rfl (by decide) ?_
    refine rz_callVv (t := [.int (Sq3.1 123 38)]) d_M_title_79 w_12_406 rfl rfl rfl q3 (fun Sq4 q4 => ?_)
    refine rz_pure (pc' := 83) d_M_title_82 rfl ?_
    refine rz_pure (pc' := 84) d_M_title_83 rfl ?_
    refine rz_getr d_M_title_84 f_12_145 rfl rfl ?_
    refine rz_bipush (v := 39) d_M_title_87 (by decide) ?_
    refine rz_ialdv (F := Sq4.1 123) (i := 39) d_M_title_89 rfl (by decide) rfl (by decide) ?_
    refine rz_callVv (t := [.int (Sq4.1 123 39)]) d_M_title_90 w_12_406 rfl rfl rfl q4 (fun Sq5 q5 => ?_)
    refine rz_pure (pc' := 94) d_M_title_93 rfl ?_
    refine rz_bipush (v := 13) d_M_title_94 (by decide) ?_
    refine rz_callVv (t := [.int 13]) d_M_title_96 w_12_406 rfl rfl rfl q5 (fun Sq6 q6 => ?_)
    refine rz_pure (pc' := 100) d_M_title_99 rfl ?_
    refine rz_getr d_M_title_100 f_12_302 rfl rfl ?_
    refine rz_pure (pc' := 104) d_M_title_103 rfl ?_
    refine rz_iconst (v := 1) d_M_title_104 (by decide) ?_
    refine rz_iastv (F := Sq6.1 139) (i := a1.toNatClampNeg) d_M_title_105 rfl q6.1 rfl rfl ?_
    refine rz_pure (pc' := 107) d_M_title_106 rfl ?_
    refine rz_getr d_M_title_107 f_12_502 rfl rfl ?_
    refine rz_pure (pc' := 111) d_M_title_110 rfl ?_
    refine rz_bipush (v := 7) d_M_title_111 (by decide) ?_
    refine rz_iastv (F := Sq6.1 140) (i := a1.toNatClampNeg) d_M_title_113 rfl q6.1 ((rz_fA_n (by omega)).trans rfl) rfl ?_
    refine rz_pure (pc' := 115) d_M_title_114 rfl ?_
    refine rz_getr d_M_title_115 f_12_505 rfl rfl ?_
    refine rz_pure (pc' := 119) d_M_title_118 rfl ?_
    refine rz_iconst (v := 1) d_M_title_119 (by decide) ?_
    refine rz_iastv (F := Sq6.1 141) (i := a1.toNatClampNeg) d_M_title_120 rfl q6.1 ((rz_fA_n (by omega)).trans ((rz_fA_n (by omega)).trans rfl)) rfl ?_
    refine rz_pure (pc' := 122) d_M_title_121 rfl ?_
    refine rz_getr d_M_title_122 f_12_508 rfl rfl ?_
    refine rz_pure (pc' := 126) d_M_title_125 rfl ?_
    refine rz_iconst (v := 1) d_M_title_126 (by decide) ?_
    refine rz_iastv (F := Sq6.1 142) (i := a1.toNatClampNeg) d_M_title_127 rfl q6.1 ((rz_fA_n (by omega)).trans ((rz_fA_n (by omega)).trans ((rz_fA_n (by omega)).trans rfl))) rfl ?_
    refine rz_pure (pc' := 129) d_M_title_128 rfl ?_
    refine rz_getr d_M_title_129 f_12_511 rfl rfl ?_
    refine rz_pure (pc' := 133) d_M_title_132 rfl ?_
    refine rz_iconst (v := 0) d_M_title_133 (by decide) ?_
    refine rz_iastv (F := Sq6.1 143) (i := a1.toNatClampNeg) d_M_title_134 rfl q6.1 ((rz_fA_n (by omega)).trans ((rz_fA_n (by omega)).trans ((rz_fA_n (by omega)).trans ((rz_fA_n (by omega)).trans rfl)))) rfl ?_
    refine rz_iconst (v := 0) d_M_title_135 (by decide) ?_
    exact rz_ireti d_M_title_136 rfl rfl q6.2
  · skip
    refine rz_pure (pc' := 27) d_M_title_26 rfl ?_
    refine rz_pure (pc' := 28) d_M_title_27 rfl ?_
    refine rz_getr d_M_title_28 f_12_145 rfl rfl ?_
    refine rz_pure (pc' := 32) d_M_title_31 rfl ?_
    refine rz_ialdv (F := S.1 123) (i := a3.toNatClampNeg) d_M_title_32 rfl (w.2 b1).1 rfl rfl ?_
    refine rz_sipush (v := 160) d_M_title_33 (by decide) ?_
    refine rz_icmpne (tgt := 44) d_M_title_36 rfl (fun b7 => ?_) (fun b7 => ?_)
    · skip
      refine rz_pure (pc' := 45) d_M_title_44 rfl ?_
      refine rz_getr d_M_title_45 f_12_145 rfl rfl ?_
      refine rz_pure (pc' := 49) d_M_title_48 rfl ?_
      refine rz_ialdv (F := S.1 123) (i := a3.toNatClampNeg) d_M_title_49 rfl (w.2 b1).1 rfl rfl ?_
      exact rz_pick (ks := [0, 1, 3]) (l := [(0, .ref 116), (1, .int a1), (3, .int a3)]) rfl rfl (by decide) rfl ((w.2 b1).2.2 b7)
    · skip
      refine rz_bipush (v := 32) d_M_title_39 (by decide) ?_
      refine rz_pure (pc' := 50) d_M_title_41 rfl ?_
      exact rz_pick (ks := [0, 1, 3]) (l := [(0, .ref 116), (1, .int a1), (3, .int a3)]) rfl rfl (by decide) rfl ((w.2 b1).2.1 b7)
theorem p_M_title_50 {S : rz_S} {K : Int32 → rz_S → Prop} {a1 : Int32} {a3 : Int32} {s0 : Int32} (w : rz_ev mM_says [.ref 116, .int s0] S (rz_v (fun Sq1 => rz mM_title 20 [(0, .ref 116), (1, .int a1), (3, .int (a3 + 1))] [] Sq1 (rz_i K)))) : rz mM_title 50 [(0, .ref 116), (1, .int a1), (3, .int a3)] [.int s0, .ref 116] S (rz_i K) := by
  refine rz_callVv (t := [.int s0]) d_M_title_50 w_12_406 rfl rfl rfl w (fun Sq1 q1 => ?_)
  refine rz_pure (pc' := 56) (l' := [(3, .int (a3 + 1)), (0, .ref 116), (1, .int a1)]) d_M_title_53 rfl ?_
  refine rz_pure (pc' := 20) d_M_title_56 rfl ?_
  exact rz_pick (ks := [0, 1, 3]) (l := [(0, .ref 116), (1, .int a1), (3, .int (a3 + 1))]) rfl rfl (by decide) rfl q1
theorem d_M_next_0 : decode (rm_code mM_next) 0 = .ok (.aload_n 0, 1) := by decide +kernel
theorem d_M_next_1 : decode (rm_code mM_next) 1 = .ok (.getfield 502, 3) := by decide +kernel
theorem d_M_next_4 : decode (rm_code mM_next) 4 = .ok (.iload_n 1, 1) := by decide +kernel
theorem d_M_next_5 : decode (rm_code mM_next) 5 = .ok (.iaload, 1) := by decide +kernel
theorem d_M_next_6 : decode (rm_code mM_next) 6 = .ok (.istore_n 2, 1) := by decide +kernel
theorem d_M_next_7 : decode (rm_code mM_next) 7 = .ok (.aload_n 0, 1) := by decide +kernel
theorem d_M_next_8 : decode (rm_code mM_next) 8 = .ok (.getfield 505, 3) := by decide +kernel
theorem d_M_next_11 : decode (rm_code mM_next) 11 = .ok (.iload_n 1, 1) := by decide +kernel
theorem d_M_next_12 : decode (rm_code mM_next) 12 = .ok (.iaload, 1) := by decide +kernel
theorem d_M_next_13 : decode (rm_code mM_next) 13 = .ok (.istore_n 3, 1) := by decide +kernel
theorem d_M_next_14 : decode (rm_code mM_next) 14 = .ok (.iload_n 2, 1) := by decide +kernel
theorem d_M_next_15 : decode (rm_code mM_next) 15 = .ok (.iload_n 3, 1) := by decide +kernel
theorem d_M_next_16 : decode (rm_code mM_next) 16 = .ok (.invokestatic 161, 3) := by decide +kernel
theorem d_M_next_19 : decode (rm_code mM_next) 19 = .ok (.ifCond .eq (17), 3) := by decide +kernel
theorem d_M_next_22 : decode (rm_code mM_next) 22 = .ok (.aload_n 0, 1) := by decide +kernel
theorem d_M_next_23 : decode (rm_code mM_next) 23 = .ok (.iload_n 2, 1) := by decide +kernel
theorem d_M_next_24 : decode (rm_code mM_next) 24 = .ok (.iload_n 3, 1) := by decide +kernel
theorem d_M_next_25 : decode (rm_code mM_next) 25 = .ok (.aload_n 0, 1) := by decide +kernel
theorem d_M_next_26 : decode (rm_code mM_next) 26 = .ok (.getfield 195, 3) := by decide +kernel
theorem d_M_next_29 : decode (rm_code mM_next) 29 = .ok (.iconst 0, 1) := by decide +kernel
theorem d_M_next_30 : decode (rm_code mM_next) 30 = .ok (.invokevirtual 148, 3) := by decide +kernel
theorem d_M_next_33 : decode (rm_code mM_next) 33 = .ok (.goto (11), 3) := by decide +kernel
theorem d_M_next_36 : decode (rm_code mM_next) 36 = .ok (.aload_n 0, 1) := by decide +kernel
theorem d_M_next_37 : decode (rm_code mM_next) 37 = .ok (.bipush (71), 2) := by decide +kernel
theorem d_M_next_39 : decode (rm_code mM_next) 39 = .ok (.iload_n 2, 1) := by decide +kernel
theorem d_M_next_40 : decode (rm_code mM_next) 40 = .ok (.iload_n 3, 1) := by decide +kernel
theorem d_M_next_41 : decode (rm_code mM_next) 41 = .ok (.invokevirtual 113, 3) := by decide +kernel
theorem d_M_next_44 : decode (rm_code mM_next) 44 = .ok (.istore 4, 2) := by decide +kernel
theorem d_M_next_46 : decode (rm_code mM_next) 46 = .ok (.iload 4, 2) := by decide +kernel
theorem d_M_next_48 : decode (rm_code mM_next) 48 = .ok (.ifCond .eq (6), 3) := by decide +kernel
theorem d_M_next_51 : decode (rm_code mM_next) 51 = .ok (.iload 4, 2) := by decide +kernel
theorem d_M_next_53 : decode (rm_code mM_next) 53 = .ok (.ireturn, 1) := by decide +kernel
theorem d_M_next_54 : decode (rm_code mM_next) 54 = .ok (.aload_n 0, 1) := by decide +kernel
theorem d_M_next_55 : decode (rm_code mM_next) 55 = .ok (.getfield 511, 3) := by decide +kernel
theorem d_M_next_58 : decode (rm_code mM_next) 58 = .ok (.iload_n 1, 1) := by decide +kernel
theorem d_M_next_59 : decode (rm_code mM_next) 59 = .ok (.iaload, 1) := by decide +kernel
theorem d_M_next_60 : decode (rm_code mM_next) 60 = .ok (.istore 5, 2) := by decide +kernel
theorem d_M_next_62 : decode (rm_code mM_next) 62 = .ok (.iload 5, 2) := by decide +kernel
theorem d_M_next_64 : decode (rm_code mM_next) 64 = .ok (.iconst 4, 1) := by decide +kernel
theorem d_M_next_65 : decode (rm_code mM_next) 65 = .ok (.if_icmp .ge (77), 3) := by decide +kernel
theorem d_M_next_68 : decode (rm_code mM_next) 68 = .ok (.bipush (16), 2) := by decide +kernel
theorem d_M_next_70 : decode (rm_code mM_next) 70 = .ok (.iload 5, 2) := by decide +kernel
theorem d_M_next_72 : decode (rm_code mM_next) 72 = .ok (.imul, 1) := by decide +kernel
theorem d_M_next_73 : decode (rm_code mM_next) 73 = .ok (.istore 6, 2) := by decide +kernel
theorem d_M_next_75 : decode (rm_code mM_next) 75 = .ok (.aload_n 0, 1) := by decide +kernel
theorem d_M_next_76 : decode (rm_code mM_next) 76 = .ok (.getfield 195, 3) := by decide +kernel
theorem d_M_next_79 : decode (rm_code mM_next) 79 = .ok (.iload 6, 2) := by decide +kernel
theorem d_M_next_81 : decode (rm_code mM_next) 81 = .ok (.iconst 2, 1) := by decide +kernel
theorem d_M_next_82 : decode (rm_code mM_next) 82 = .ok (.iadd, 1) := by decide +kernel
theorem d_M_next_83 : decode (rm_code mM_next) 83 = .ok (.iaload, 1) := by decide +kernel
theorem d_M_next_84 : decode (rm_code mM_next) 84 = .ok (.ifCond .eq (52), 3) := by decide +kernel
theorem d_M_next_87 : decode (rm_code mM_next) 87 = .ok (.aload_n 0, 1) := by decide +kernel
theorem d_M_next_88 : decode (rm_code mM_next) 88 = .ok (.getfield 296, 3) := by decide +kernel
theorem d_M_next_91 : decode (rm_code mM_next) 91 = .ok (.bipush (10), 2) := by decide +kernel
theorem d_M_next_93 : decode (rm_code mM_next) 93 = .ok (.iload_n 1, 1) := by decide +kernel
theorem d_M_next_94 : decode (rm_code mM_next) 94 = .ok (.imul, 1) := by decide +kernel
theorem d_M_next_95 : decode (rm_code mM_next) 95 = .ok (.aload_n 0, 1) := by decide +kernel
theorem d_M_next_96 : decode (rm_code mM_next) 96 = .ok (.getfield 299, 3) := by decide +kernel
theorem d_M_next_99 : decode (rm_code mM_next) 99 = .ok (.iload_n 1, 1) := by decide +kernel
theorem d_M_next_100 : decode (rm_code mM_next) 100 = .ok (.iaload, 1) := by decide +kernel
theorem d_M_next_101 : decode (rm_code mM_next) 101 = .ok (.aload_n 0, 1) := by decide +kernel
theorem d_M_next_102 : decode (rm_code mM_next) 102 = .ok (.getfield 195, 3) := by decide +kernel
theorem d_M_next_105 : decode (rm_code mM_next) 105 = .ok (.iload 6, 2) := by decide +kernel
theorem d_M_next_107 : decode (rm_code mM_next) 107 = .ok (.iconst 5, 1) := by decide +kernel
theorem d_M_next_108 : decode (rm_code mM_next) 108 = .ok (.iadd, 1) := by decide +kernel
theorem d_M_next_109 : decode (rm_code mM_next) 109 = .ok (.invokestatic 204, 3) := by decide +kernel
theorem d_M_next_112 : decode (rm_code mM_next) 112 = .ok (.ifCond .ne (6), 3) := by decide +kernel
theorem d_M_next_115 : decode (rm_code mM_next) 115 = .ok (.goto (21), 3) := by decide +kernel
theorem d_M_next_118 : decode (rm_code mM_next) 118 = .ok (.aload_n 0, 1) := by decide +kernel
theorem d_M_next_119 : decode (rm_code mM_next) 119 = .ok (.getfield 511, 3) := by decide +kernel
theorem d_M_next_122 : decode (rm_code mM_next) 122 = .ok (.iload_n 1, 1) := by decide +kernel
theorem d_M_next_123 : decode (rm_code mM_next) 123 = .ok (.iload 5, 2) := by decide +kernel
theorem d_M_next_125 : decode (rm_code mM_next) 125 = .ok (.iconst 1, 1) := by decide +kernel
theorem d_M_next_126 : decode (rm_code mM_next) 126 = .ok (.iadd, 1) := by decide +kernel
theorem d_M_next_127 : decode (rm_code mM_next) 127 = .ok (.iastore, 1) := by decide +kernel
theorem d_M_next_128 : decode (rm_code mM_next) 128 = .ok (.aload_n 0, 1) := by decide +kernel
theorem d_M_next_129 : decode (rm_code mM_next) 129 = .ok (.iload 6, 2) := by decide +kernel
theorem d_M_next_131 : decode (rm_code mM_next) 131 = .ok (.invokevirtual 514, 3) := by decide +kernel
theorem d_M_next_134 : decode (rm_code mM_next) 134 = .ok (.iconst 0, 1) := by decide +kernel
theorem d_M_next_135 : decode (rm_code mM_next) 135 = .ok (.ireturn, 1) := by decide +kernel
theorem d_M_next_136 : decode (rm_code mM_next) 136 = .ok (.iinc 5 (1), 3) := by decide +kernel
theorem d_M_next_139 : decode (rm_code mM_next) 139 = .ok (.goto (-77), 3) := by decide +kernel
theorem d_M_next_142 : decode (rm_code mM_next) 142 = .ok (.aload_n 0, 1) := by decide +kernel
theorem d_M_next_143 : decode (rm_code mM_next) 143 = .ok (.getfield 195, 3) := by decide +kernel
theorem d_M_next_146 : decode (rm_code mM_next) 146 = .ok (.iconst 0, 1) := by decide +kernel
theorem d_M_next_147 : decode (rm_code mM_next) 147 = .ok (.iaload, 1) := by decide +kernel
theorem d_M_next_148 : decode (rm_code mM_next) 148 = .ok (.ifCond .eq (14), 3) := by decide +kernel
theorem d_M_next_151 : decode (rm_code mM_next) 151 = .ok (.aload_n 0, 1) := by decide +kernel
theorem d_M_next_152 : decode (rm_code mM_next) 152 = .ok (.getfield 508, 3) := by decide +kernel
theorem d_M_next_155 : decode (rm_code mM_next) 155 = .ok (.iload_n 1, 1) := by decide +kernel
theorem d_M_next_156 : decode (rm_code mM_next) 156 = .ok (.iaload, 1) := by decide +kernel
theorem d_M_next_157 : decode (rm_code mM_next) 157 = .ok (.bipush (6), 2) := by decide +kernel
theorem d_M_next_159 : decode (rm_code mM_next) 159 = .ok (.if_icmp .ne (9), 3) := by decide +kernel
theorem d_M_next_162 : decode (rm_code mM_next) 162 = .ok (.aload_n 0, 1) := by decide +kernel
theorem d_M_next_163 : decode (rm_code mM_next) 163 = .ok (.iload_n 1, 1) := by decide +kernel
theorem d_M_next_164 : decode (rm_code mM_next) 164 = .ok (.invokevirtual 517, 3) := by decide +kernel
theorem d_M_next_167 : decode (rm_code mM_next) 167 = .ok (.ireturn, 1) := by decide +kernel
theorem d_M_next_168 : decode (rm_code mM_next) 168 = .ok (.aload_n 0, 1) := by decide +kernel
theorem d_M_next_169 : decode (rm_code mM_next) 169 = .ok (.getfield 502, 3) := by decide +kernel
theorem d_M_next_172 : decode (rm_code mM_next) 172 = .ok (.iload_n 1, 1) := by decide +kernel
theorem d_M_next_173 : decode (rm_code mM_next) 173 = .ok (.aload_n 0, 1) := by decide +kernel
theorem d_M_next_174 : decode (rm_code mM_next) 174 = .ok (.getfield 195, 3) := by decide +kernel
theorem d_M_next_177 : decode (rm_code mM_next) 177 = .ok (.iconst 0, 1) := by decide +kernel
theorem d_M_next_178 : decode (rm_code mM_next) 178 = .ok (.iaload, 1) := by decide +kernel
theorem d_M_next_179 : decode (rm_code mM_next) 179 = .ok (.iastore, 1) := by decide +kernel
theorem d_M_next_180 : decode (rm_code mM_next) 180 = .ok (.aload_n 0, 1) := by decide +kernel
theorem d_M_next_181 : decode (rm_code mM_next) 181 = .ok (.getfield 505, 3) := by decide +kernel
theorem d_M_next_184 : decode (rm_code mM_next) 184 = .ok (.iload_n 1, 1) := by decide +kernel
theorem d_M_next_185 : decode (rm_code mM_next) 185 = .ok (.aload_n 0, 1) := by decide +kernel
theorem d_M_next_186 : decode (rm_code mM_next) 186 = .ok (.getfield 195, 3) := by decide +kernel
theorem d_M_next_189 : decode (rm_code mM_next) 189 = .ok (.iconst 1, 1) := by decide +kernel
theorem d_M_next_190 : decode (rm_code mM_next) 190 = .ok (.iaload, 1) := by decide +kernel
theorem d_M_next_191 : decode (rm_code mM_next) 191 = .ok (.iastore, 1) := by decide +kernel
theorem d_M_next_192 : decode (rm_code mM_next) 192 = .ok (.aload_n 0, 1) := by decide +kernel
theorem d_M_next_193 : decode (rm_code mM_next) 193 = .ok (.getfield 508, 3) := by decide +kernel
theorem d_M_next_196 : decode (rm_code mM_next) 196 = .ok (.iload_n 1, 1) := by decide +kernel
theorem d_M_next_197 : decode (rm_code mM_next) 197 = .ok (.aload_n 0, 1) := by decide +kernel
theorem d_M_next_198 : decode (rm_code mM_next) 198 = .ok (.getfield 508, 3) := by decide +kernel
theorem d_M_next_201 : decode (rm_code mM_next) 201 = .ok (.iload_n 1, 1) := by decide +kernel
theorem d_M_next_202 : decode (rm_code mM_next) 202 = .ok (.iaload, 1) := by decide +kernel
theorem d_M_next_203 : decode (rm_code mM_next) 203 = .ok (.iconst 1, 1) := by decide +kernel
theorem d_M_next_204 : decode (rm_code mM_next) 204 = .ok (.iadd, 1) := by decide +kernel
theorem d_M_next_205 : decode (rm_code mM_next) 205 = .ok (.iastore, 1) := by decide +kernel
theorem d_M_next_206 : decode (rm_code mM_next) 206 = .ok (.aload_n 0, 1) := by decide +kernel
theorem d_M_next_207 : decode (rm_code mM_next) 207 = .ok (.getfield 511, 3) := by decide +kernel
theorem d_M_next_210 : decode (rm_code mM_next) 210 = .ok (.iload_n 1, 1) := by decide +kernel
theorem d_M_next_211 : decode (rm_code mM_next) 211 = .ok (.iconst 0, 1) := by decide +kernel
theorem d_M_next_212 : decode (rm_code mM_next) 212 = .ok (.iastore, 1) := by decide +kernel
theorem d_M_next_213 : decode (rm_code mM_next) 213 = .ok (.goto (-213), 3) := by decide +kernel
theorem p_M_next_0 {S : rz_S} {K : Int32 → rz_S → Prop} {a1 : Int32} (w : rx_in a1 15 = true ∧ rz_ev mM_isLegal [.int (S.1 140 a1.toNatClampNeg), .int (S.1 141 a1.toNatClampNeg)] S (rz_i (fun xq1 Sq1 => ((xq1 = 0 → rz_ev mM_fault [.ref 116, .int 71, .int (S.1 140 a1.toNatClampNeg), .int (S.1 141 a1.toNatClampNeg)] Sq1 (rz_i (fun xq3 Sq3 => rz mM_next 44 [(0, .ref 116), (1, .int a1)] [.int xq3] Sq3 (rz_i K)))) ∧ (¬ xq1 = 0 → rz_ev mM_readBlock [.ref 116, .int (S.1 140 a1.toNatClampNeg), .int (S.1 141 a1.toNatClampNeg), .ref 124, .int 0] Sq1 (rz_i (fun xq4 Sq4 => rz mM_next 44 [(0, .ref 116), (1, .int a1)] [.int xq4] Sq4 (rz_i K)))))))) : rz mM_next 0 [(0, .ref 116), (1, .int a1)] [] S (rz_i K) := by
  refine rz_pure (pc' := 1) d_M_next_0 rfl ?_
  refine rz_getr d_M_next_1 f_12_502 rfl rfl ?_
  refine rz_pure (pc' := 5) d_M_next_4 rfl ?_
  refine rz_ialdv (F := S.1 140) (i := a1.toNatClampNeg) d_M_next_5 rfl w.1 rfl rfl ?_
  refine rz_pure (pc' := 7) (l' := [(2, .int (S.1 140 a1.toNatClampNeg)), (0, .ref 116), (1, .int a1)]) d_M_next_6 rfl ?_
  refine rz_pure (pc' := 8) d_M_next_7 rfl ?_
  refine rz_getr d_M_next_8 f_12_505 rfl rfl ?_
  refine rz_pure (pc' := 12) d_M_next_11 rfl ?_
  refine rz_ialdv (F := S.1 141) (i := a1.toNatClampNeg) d_M_next_12 rfl w.1 rfl rfl ?_
  refine rz_pure (pc' := 14) (l' := [(3, .int (S.1 141 a1.toNatClampNeg)), (2, .int (S.1 140 a1.toNatClampNeg)), (0, .ref 116), (1, .int a1)]) d_M_next_13 rfl ?_
  refine rz_pure (pc' := 15) d_M_next_14 rfl ?_
  refine rz_pure (pc' := 16) d_M_next_15 rfl ?_
  refine rz_callSi (t := [.int (S.1 141 a1.toNatClampNeg), .int (S.1 140 a1.toNatClampNeg)]) d_M_next_16 rfl w_12_161 rfl rfl w.2 (fun xq1 Sq1 q1 => ?_)
  refine rz_ifeq (tgt := 36) d_M_next_19 rfl (fun b2 => ?_) (fun b2 => ?_)
  · skip
    refine rz_pure (pc' := 37) d_M_next_36 rfl ?_
    refine rz_bipush (v := 71) d_M_next_37 (by decide) ?_
    refine rz_pure (pc' := 40) d_M_next_39 rfl ?_
    refine rz_pure (pc' := 41) d_M_next_40 rfl ?_
    refine rz_callVi (t := [.int (S.1 141 a1.toNatClampNeg), .int (S.1 140 a1.toNatClampNeg), .int 71]) d_M_next_41 w_12_113 rfl rfl rfl (q1.1 b2) (fun xq3 Sq3 q3 => ?_)
    exact rz_pick (ks := [0, 1]) (l := [(0, .ref 116), (1, .int a1)]) rfl rfl (by decide) rfl q3
  · skip
    refine rz_pure (pc' := 23) d_M_next_22 rfl ?_
    refine rz_pure (pc' := 24) d_M_next_23 rfl ?_
    refine rz_pure (pc' := 25) d_M_next_24 rfl ?_
    refine rz_pure (pc' := 26) d_M_next_25 rfl ?_
    refine rz_getr d_M_next_26 f_12_195 rfl rfl ?_
    refine rz_iconst (v := 0) d_M_next_29 (by decide) ?_
    refine rz_callVi (t := [.int 0, .ref 124, .int (S.1 141 a1.toNatClampNeg), .int (S.1 140 a1.toNatClampNeg)]) d_M_next_30 w_12_148 rfl rfl rfl (q1.2 b2) (fun xq4 Sq4 q4 => ?_)
    refine rz_pure (pc' := 44) d_M_next_33 rfl ?_
    exact rz_pick (ks := [0, 1]) (l := [(0, .ref 116), (1, .int a1)]) rfl rfl (by decide) rfl q4
theorem p_M_next_44 {S : rz_S} {K : Int32 → rz_S → Prop} {a1 : Int32} {s0 : Int32} (w : ((s0 = 0 → rx_in a1 15 = true ∧ rz mM_next 62 [(0, .ref 116), (1, .int a1), (5, .int (S.1 143 a1.toNatClampNeg))] [] S (rz_i K)) ∧ (¬ s0 = 0 → K s0 S))) : rz mM_next 44 [(0, .ref 116), (1, .int a1)] [.int s0] S (rz_i K) := by
  refine rz_pure (pc' := 46) (l' := [(4, .int s0), (0, .ref 116), (1, .int a1)]) d_M_next_44 rfl ?_
  refine rz_pure (pc' := 48) d_M_next_46 rfl ?_
  refine rz_ifeq (tgt := 54) d_M_next_48 rfl (fun b1 => ?_) (fun b1 => ?_)
  · skip
    refine rz_pure (pc' := 55) d_M_next_54 rfl ?_
    refine rz_getr d_M_next_55 f_12_511 rfl rfl ?_
    refine rz_pure (pc' := 59) d_M_next_58 rfl ?_
    refine rz_ialdv (F := S.1 143) (i := a1.toNatClampNeg) d_M_next_59 rfl (w.1 b1).1 rfl rfl ?_
    refine rz_pure (pc' := 62) (l' := [(5, .int (S.1 143 a1.toNatClampNeg)), (4, .int s0), (0, .ref 116), (1, .int a1)]) d_M_next_60 rfl ?_
    exact rz_pick (ks := [0, 1, 5]) (l := [(0, .ref 116), (1, .int a1), (5, .int (S.1 143 a1.toNatClampNeg))]) rfl rfl (by decide) rfl (w.1 b1).2
  · skip
    refine rz_pure (pc' := 53) d_M_next_51 rfl ?_
    exact rz_ireti d_M_next_53 rfl rfl (w.2 b1)
theorem p_M_next_62 {S : rz_S} {K : Int32 → rz_S → Prop} {a1 : Int32} {a5 : Int32} (w : ((4 ≤ a5 → ((S.1 124 0 = 0 → rz mM_next 162 [(0, .ref 116), (1, .int a1)] [] S (rz_i K)) ∧ (¬ S.1 124 0 = 0 → rx_in a1 15 = true ∧ ((S.1 142 a1.toNatClampNeg = 6 → rz mM_next 162 [(0, .ref 116), (1, .int a1)] [] S (rz_i K)) ∧ (¬ S.1 142 a1.toNatClampNeg = 6 → rz mM_next 0 [(0, .ref 116), (1, .int a1)] [] (rz_fA (rz_fA (rz_fA (rz_fA S 140 (upd (S.1 140) a1.toNatClampNeg (S.1 124 0))) 141 (upd (S.1 141) a1.toNatClampNeg (S.1 124 1))) 142 (upd (S.1 142) a1.toNatClampNeg ((S.1 142 a1.toNatClampNeg) + 1))) 143 (upd (S.1 143) a1.toNatClampNeg 0)) (rz_i K)))))) ∧ (¬ 4 ≤ a5 → rx_in ((16 * a5) + 2) 64 = true ∧ ((S.1 124 (((16 * a5) + 2).toNatClampNeg) = 0 → rz mM_next 62 [(0, .ref 116), (1, .int a1), (5, .int (a5 + 1))] [] S (rz_i K)) ∧ (¬ S.1 124 (((16 * a5) + 2).toNatClampNeg) = 0 → rx_in a1 15 = true ∧ rz_ev mM_fits [.ref 147, .int (10 * a1), .int (S.1 144 a1.toNatClampNeg), .ref 124, .int ((16 * a5) + 5)] S (rz_i (fun xq5 Sq5 => ((xq5 = 0 → rz mM_next 62 [(0, .ref 116), (1, .int a1), (5, .int (a5 + 1))] [] Sq5 (rz_i K)) ∧ (¬ xq5 = 0 → rz_ev mM_entryLine [.ref 116, .int (16 * a5)] (rz_fA Sq5 143 (upd (Sq5.1 143) a1.toNatClampNeg (a5 + 1))) (rz_v (fun Sq7 => K 0 Sq7))))))))))) : rz mM_next 62 [(0, .ref 116), (1, .int a1), (5, .int a5)] [] S (rz_i K) := by
  refine rz_pure (pc' := 64) d_M_next_62 rfl ?_
  refine rz_iconst (v := 4) d_M_next_64 (by decide) ?_
  refine rz_icmpge (tgt := 142) d_M_next_65 rfl (fun b1 => ?_) (fun b1 => ?_)
  · skip
    refine rz_pure (pc' := 143) d_M_next_142 rfl ?_
    refine rz_getr d_M_next_143 f_12_195 rfl rfl ?_
    refine rz_iconst (v := 0) d_M_next_146 (by decide) ?_
    refine rz_ialdv (F := S.1 124) (i := 0) d_M_next_147 rfl (by decide) rfl (by decide) ?_
    refine rz_ifeq (tgt := 162) d_M_next_148 rfl (fun b2 => ?_) (fun b2 => ?_)
    · skip
      exact rz_pick (ks := [0, 1]) (l := [(0, .ref 116), (1, .int a1)]) rfl rfl (by decide) rfl ((w.1 b1).1 b2)
    · skip
      refine rz_pure (pc' := 152) d_M_next_151 rfl ?_
      refine rz_getr d_M_next_152 f_12_508 rfl rfl ?_
      refine rz_pure (pc' := 156) d_M_next_155 rfl ?_
      refine rz_ialdv (F := S.1 142) (i := a1.toNatClampNeg) d_M_next_156 rfl ((w.1 b1).2 b2).1 rfl rfl ?_
      refine rz_bipush (v := 6) d_M_next_157 (by decide) ?_
      refine rz_icmpne (tgt := 168) d_M_next_159 rfl (fun b3 => ?_) (fun b3 => ?_)
      · skip
        refine rz_pure (pc' := 169) d_M_next_168 rfl ?_
        refine rz_getr d_M_next_169 f_12_502 rfl rfl ?_
        refine rz_pure (pc' := 173) d_M_next_172 rfl ?_
        refine rz_pure (pc' := 174) d_M_next_173 rfl ?_
        refine rz_getr d_M_next_174 f_12_195 rfl rfl ?_
        refine rz_iconst (v := 0) d_M_next_177 (by decide) ?_
        refine rz_ialdv (F := S.1 124) (i := 0) d_M_next_178 rfl (by decide) rfl (by decide) ?_
        refine rz_iastv (F := S.1 140) (i := a1.toNatClampNeg) d_M_next_179 rfl ((w.1 b1).2 b2).1 rfl rfl ?_
        refine rz_pure (pc' := 181) d_M_next_180 rfl ?_
        refine rz_getr d_M_next_181 f_12_505 rfl rfl ?_
        refine rz_pure (pc' := 185) d_M_next_184 rfl ?_
        refine rz_pure (pc' := 186) d_M_next_185 rfl ?_
        refine rz_getr d_M_next_186 f_12_195 rfl rfl ?_
        refine rz_iconst (v := 1) d_M_next_189 (by decide) ?_
        refine rz_ialdv (F := S.1 124) (i := 1) d_M_next_190 rfl (by decide) ((rz_fA_n (by omega)).trans rfl) (by decide) ?_
        refine rz_iastv (F := S.1 141) (i := a1.toNatClampNeg) d_M_next_191 rfl ((w.1 b1).2 b2).1 ((rz_fA_n (by omega)).trans rfl) rfl ?_
        refine rz_pure (pc' := 193) d_M_next_192 rfl ?_
        refine rz_getr d_M_next_193 f_12_508 rfl rfl ?_
        refine rz_pure (pc' := 197) d_M_next_196 rfl ?_
        refine rz_pure (pc' := 198) d_M_next_197 rfl ?_
        refine rz_getr d_M_next_198 f_12_508 rfl rfl ?_
        refine rz_pure (pc' := 202) d_M_next_201 rfl ?_
        refine rz_ialdv (F := S.1 142) (i := a1.toNatClampNeg) d_M_next_202 rfl ((w.1 b1).2 b2).1 ((rz_fA_n (by omega)).trans ((rz_fA_n (by omega)).trans rfl)) rfl ?_
        refine rz_iconst (v := 1) d_M_next_203 (by decide) ?_
        refine rz_iadd d_M_next_204 ?_
        refine rz_iastv (F := S.1 142) (i := a1.toNatClampNeg) d_M_next_205 rfl ((w.1 b1).2 b2).1 ((rz_fA_n (by omega)).trans ((rz_fA_n (by omega)).trans rfl)) rfl ?_
        refine rz_pure (pc' := 207) d_M_next_206 rfl ?_
        refine rz_getr d_M_next_207 f_12_511 rfl rfl ?_
        refine rz_pure (pc' := 211) d_M_next_210 rfl ?_
        refine rz_iconst (v := 0) d_M_next_211 (by decide) ?_
        refine rz_iastv (F := S.1 143) (i := a1.toNatClampNeg) d_M_next_212 rfl ((w.1 b1).2 b2).1 ((rz_fA_n (by omega)).trans ((rz_fA_n (by omega)).trans ((rz_fA_n (by omega)).trans rfl))) rfl ?_
        refine rz_pure (pc' := 0) d_M_next_213 rfl ?_
        exact rz_pick (ks := [0, 1]) (l := [(0, .ref 116), (1, .int a1)]) rfl rfl (by decide) rfl (((w.1 b1).2 b2).2.2 b3)
      · skip
        exact rz_pick (ks := [0, 1]) (l := [(0, .ref 116), (1, .int a1)]) rfl rfl (by decide) rfl (((w.1 b1).2 b2).2.1 b3)
  · skip
    refine rz_bipush (v := 16) d_M_next_68 (by decide) ?_
    refine rz_pure (pc' := 72) d_M_next_70 rfl ?_
    refine rz_imul d_M_next_72 ?_
    refine rz_pure (pc' := 75) (l' := [(6, .int (16 * a5)), (0, .ref 116), (1, .int a1), (5, .int a5)]) d_M_next_73 rfl ?_
    refine rz_pure (pc' := 76) d_M_next_75 rfl ?_
    refine rz_getr d_M_next_76 f_12_195 rfl rfl ?_
    refine rz_pure (pc' := 81) d_M_next_79 rfl ?_
    refine rz_iconst (v := 2) d_M_next_81 (by decide) ?_
    refine rz_iadd d_M_next_82 ?_
    refine rz_ialdv (F := S.1 124) (i := ((16 * a5) + 2).toNatClampNeg) d_M_next_83 rfl (w.2 b1).1 rfl rfl ?_
    refine rz_ifeq (tgt := 136) d_M_next_84 rfl (fun b4 => ?_) (fun b4 => ?_)
    · skip
      refine rz_pure (pc' := 139) (l' := [(5, .int (a5 + 1)), (6, .int (16 * a5)), (0, .ref 116), (1, .int a1)]) d_M_next_136 rfl ?_
      refine rz_pure (pc' := 62) d_M_next_139 rfl ?_
      exact rz_pick (ks := [0, 1, 5]) (l := [(0, .ref 116), (1, .int a1), (5, .int (a5 + 1))]) rfl rfl (by decide) rfl ((w.2 b1).2.1 b4)
    · skip
      refine rz_pure (pc' := 88) d_M_next_87 rfl ?_
      refine rz_getr d_M_next_88 f_12_296 rfl rfl ?_
      refine rz_bipush (v := 10) d_M_next_91 (by decide) ?_
      refine rz_pure (pc' := 94) d_M_next_93 rfl ?_
      refine rz_imul d_M_next_94 ?_
      refine rz_pure (pc' := 96) d_M_next_95 rfl ?_
      refine rz_getr d_M_next_96 f_12_299 rfl rfl ?_
      refine rz_pure (pc' := 100) d_M_next_99 rfl ?_
      refine rz_ialdv (F := S.1 144) (i := a1.toNatClampNeg) d_M_next_100 rfl ((w.2 b1).2.2 b4).1 rfl rfl ?_
      refine rz_pure (pc' := 102) d_M_next_101 rfl ?_
      refine rz_getr d_M_next_102 f_12_195 rfl rfl ?_
      refine rz_pure (pc' := 107) d_M_next_105 rfl ?_
      refine rz_iconst (v := 5) d_M_next_107 (by decide) ?_
      refine rz_iadd d_M_next_108 ?_
      refine rz_callSi (t := [.int ((16 * a5) + 5), .ref 124, .int (S.1 144 a1.toNatClampNeg), .int (10 * a1), .ref 147]) d_M_next_109 rfl w_12_204 rfl rfl ((w.2 b1).2.2 b4).2 (fun xq5 Sq5 q5 => ?_)
      refine rz_ifne (tgt := 118) d_M_next_112 rfl (fun b6 => ?_) (fun b6 => ?_)
      · skip
        refine rz_pure (pc' := 119) d_M_next_118 rfl ?_
        refine rz_getr d_M_next_119 f_12_511 rfl rfl ?_
        refine rz_pure (pc' := 123) d_M_next_122 rfl ?_
        refine rz_pure (pc' := 125) d_M_next_123 rfl ?_
        refine rz_iconst (v := 1) d_M_next_125 (by decide) ?_
        refine rz_iadd d_M_next_126 ?_
        refine rz_iastv (F := Sq5.1 143) (i := a1.toNatClampNeg) d_M_next_127 rfl ((w.2 b1).2.2 b4).1 rfl rfl ?_
        refine rz_pure (pc' := 129) d_M_next_128 rfl ?_
        refine rz_pure (pc' := 131) d_M_next_129 rfl ?_
        refine rz_callVv (t := [.int (16 * a5)]) d_M_next_131 w_12_514 rfl rfl rfl (q5.2 b6) (fun Sq7 q7 => ?_)
        refine rz_iconst (v := 0) d_M_next_134 (by decide) ?_
        exact rz_ireti d_M_next_135 rfl rfl q7
      · skip
        refine rz_pure (pc' := 136) d_M_next_115 rfl ?_
        refine rz_pure (pc' := 139) (l' := [(5, .int (a5 + 1)), (6, .int (16 * a5)), (0, .ref 116), (1, .int a1)]) d_M_next_136 rfl ?_
        refine rz_pure (pc' := 62) d_M_next_139 rfl ?_
        exact rz_pick (ks := [0, 1, 5]) (l := [(0, .ref 116), (1, .int a1), (5, .int (a5 + 1))]) rfl rfl (by decide) rfl (q5.1 b6)
theorem p_M_next_162 {S : rz_S} {K : Int32 → rz_S → Prop} {a1 : Int32} (w : rz_ev mM_total [.ref 116, .int a1] S (rz_i (fun xq1 Sq1 => K xq1 Sq1))) : rz mM_next 162 [(0, .ref 116), (1, .int a1)] [] S (rz_i K) := by
  refine rz_pure (pc' := 163) d_M_next_162 rfl ?_
  refine rz_pure (pc' := 164) d_M_next_163 rfl ?_
  refine rz_callVi (t := [.int a1]) d_M_next_164 w_12_517 rfl rfl rfl w (fun xq1 Sq1 q1 => ?_)
  exact rz_ireti d_M_next_167 rfl rfl q1
theorem d_M_entryLine_0 : decode (rm_code mM_entryLine) 0 = .ok (.aload_n 0, 1) := by decide +kernel
theorem d_M_entryLine_1 : decode (rm_code mM_entryLine) 1 = .ok (.aload_n 0, 1) := by decide +kernel
theorem d_M_entryLine_2 : decode (rm_code mM_entryLine) 2 = .ok (.getfield 195, 3) := by decide +kernel
theorem d_M_entryLine_5 : decode (rm_code mM_entryLine) 5 = .ok (.iload_n 1, 1) := by decide +kernel
theorem d_M_entryLine_6 : decode (rm_code mM_entryLine) 6 = .ok (.bipush (15), 2) := by decide +kernel
theorem d_M_entryLine_8 : decode (rm_code mM_entryLine) 8 = .ok (.iadd, 1) := by decide +kernel
theorem d_M_entryLine_9 : decode (rm_code mM_entryLine) 9 = .ok (.iaload, 1) := by decide +kernel
theorem d_M_entryLine_10 : decode (rm_code mM_entryLine) 10 = .ok (.invokevirtual 520, 3) := by decide +kernel
theorem d_M_entryLine_13 : decode (rm_code mM_entryLine) 13 = .ok (.aload_n 0, 1) := by decide +kernel
theorem d_M_entryLine_14 : decode (rm_code mM_entryLine) 14 = .ok (.bipush (32), 2) := by decide +kernel
theorem d_M_entryLine_16 : decode (rm_code mM_entryLine) 16 = .ok (.invokevirtual 406, 3) := by decide +kernel
theorem d_M_entryLine_19 : decode (rm_code mM_entryLine) 19 = .ok (.aload_n 0, 1) := by decide +kernel
theorem d_M_entryLine_20 : decode (rm_code mM_entryLine) 20 = .ok (.bipush (34), 2) := by decide +kernel
theorem d_M_entryLine_22 : decode (rm_code mM_entryLine) 22 = .ok (.invokevirtual 406, 3) := by decide +kernel
theorem d_M_entryLine_25 : decode (rm_code mM_entryLine) 25 = .ok (.iconst 1, 1) := by decide +kernel
theorem d_M_entryLine_26 : decode (rm_code mM_entryLine) 26 = .ok (.istore_n 2, 1) := by decide +kernel
theorem d_M_entryLine_27 : decode (rm_code mM_entryLine) 27 = .ok (.iconst 0, 1) := by decide +kernel
theorem d_M_entryLine_28 : decode (rm_code mM_entryLine) 28 = .ok (.istore_n 3, 1) := by decide +kernel
theorem d_M_entryLine_29 : decode (rm_code mM_entryLine) 29 = .ok (.iload_n 3, 1) := by decide +kernel
theorem d_M_entryLine_30 : decode (rm_code mM_entryLine) 30 = .ok (.bipush (10), 2) := by decide +kernel
theorem d_M_entryLine_32 : decode (rm_code mM_entryLine) 32 = .ok (.if_icmp .ge (53), 3) := by decide +kernel
theorem d_M_entryLine_35 : decode (rm_code mM_entryLine) 35 = .ok (.iload_n 2, 1) := by decide +kernel
theorem d_M_entryLine_36 : decode (rm_code mM_entryLine) 36 = .ok (.ifCond .eq (49), 3) := by decide +kernel
theorem d_M_entryLine_39 : decode (rm_code mM_entryLine) 39 = .ok (.aload_n 0, 1) := by decide +kernel
theorem d_M_entryLine_40 : decode (rm_code mM_entryLine) 40 = .ok (.getfield 195, 3) := by decide +kernel
theorem d_M_entryLine_43 : decode (rm_code mM_entryLine) 43 = .ok (.iload_n 1, 1) := by decide +kernel
theorem d_M_entryLine_44 : decode (rm_code mM_entryLine) 44 = .ok (.iconst 5, 1) := by decide +kernel
theorem d_M_entryLine_45 : decode (rm_code mM_entryLine) 45 = .ok (.iadd, 1) := by decide +kernel
theorem d_M_entryLine_46 : decode (rm_code mM_entryLine) 46 = .ok (.iload_n 3, 1) := by decide +kernel
theorem d_M_entryLine_47 : decode (rm_code mM_entryLine) 47 = .ok (.iadd, 1) := by decide +kernel
theorem d_M_entryLine_48 : decode (rm_code mM_entryLine) 48 = .ok (.iaload, 1) := by decide +kernel
theorem d_M_entryLine_49 : decode (rm_code mM_entryLine) 49 = .ok (.sipush (160), 3) := by decide +kernel
theorem d_M_entryLine_52 : decode (rm_code mM_entryLine) 52 = .ok (.if_icmp .eq (7), 3) := by decide +kernel
theorem d_M_entryLine_55 : decode (rm_code mM_entryLine) 55 = .ok (.iconst 1, 1) := by decide +kernel
theorem d_M_entryLine_56 : decode (rm_code mM_entryLine) 56 = .ok (.goto (4), 3) := by decide +kernel
theorem d_M_entryLine_59 : decode (rm_code mM_entryLine) 59 = .ok (.iconst 0, 1) := by decide +kernel
theorem d_M_entryLine_60 : decode (rm_code mM_entryLine) 60 = .ok (.istore_n 2, 1) := by decide +kernel
theorem d_M_entryLine_61 : decode (rm_code mM_entryLine) 61 = .ok (.iload_n 2, 1) := by decide +kernel
theorem d_M_entryLine_62 : decode (rm_code mM_entryLine) 62 = .ok (.ifCond .eq (17), 3) := by decide +kernel
theorem d_M_entryLine_65 : decode (rm_code mM_entryLine) 65 = .ok (.aload_n 0, 1) := by decide +kernel
theorem d_M_entryLine_66 : decode (rm_code mM_entryLine) 66 = .ok (.aload_n 0, 1) := by decide +kernel
theorem d_M_entryLine_67 : decode (rm_code mM_entryLine) 67 = .ok (.getfield 195, 3) := by decide +kernel
theorem d_M_entryLine_70 : decode (rm_code mM_entryLine) 70 = .ok (.iload_n 1, 1) := by decide +kernel
theorem d_M_entryLine_71 : decode (rm_code mM_entryLine) 71 = .ok (.iconst 5, 1) := by decide +kernel
theorem d_M_entryLine_72 : decode (rm_code mM_entryLine) 72 = .ok (.iadd, 1) := by decide +kernel
theorem d_M_entryLine_73 : decode (rm_code mM_entryLine) 73 = .ok (.iload_n 3, 1) := by decide +kernel
theorem d_M_entryLine_74 : decode (rm_code mM_entryLine) 74 = .ok (.iadd, 1) := by decide +kernel
theorem d_M_entryLine_75 : decode (rm_code mM_entryLine) 75 = .ok (.iaload, 1) := by decide +kernel
theorem d_M_entryLine_76 : decode (rm_code mM_entryLine) 76 = .ok (.invokevirtual 406, 3) := by decide +kernel
theorem d_M_entryLine_79 : decode (rm_code mM_entryLine) 79 = .ok (.iinc 3 (1), 3) := by decide +kernel
theorem d_M_entryLine_82 : decode (rm_code mM_entryLine) 82 = .ok (.goto (-53), 3) := by decide +kernel
theorem d_M_entryLine_85 : decode (rm_code mM_entryLine) 85 = .ok (.aload_n 0, 1) := by decide +kernel
theorem d_M_entryLine_86 : decode (rm_code mM_entryLine) 86 = .ok (.bipush (34), 2) := by decide +kernel
theorem d_M_entryLine_88 : decode (rm_code mM_entryLine) 88 = .ok (.invokevirtual 406, 3) := by decide +kernel
theorem d_M_entryLine_91 : decode (rm_code mM_entryLine) 91 = .ok (.aload_n 0, 1) := by decide +kernel
theorem d_M_entryLine_92 : decode (rm_code mM_entryLine) 92 = .ok (.bipush (32), 2) := by decide +kernel
theorem d_M_entryLine_94 : decode (rm_code mM_entryLine) 94 = .ok (.invokevirtual 406, 3) := by decide +kernel
theorem d_M_entryLine_97 : decode (rm_code mM_entryLine) 97 = .ok (.aload_n 0, 1) := by decide +kernel
theorem d_M_entryLine_98 : decode (rm_code mM_entryLine) 98 = .ok (.getfield 195, 3) := by decide +kernel
theorem d_M_entryLine_101 : decode (rm_code mM_entryLine) 101 = .ok (.iload_n 1, 1) := by decide +kernel
theorem d_M_entryLine_102 : decode (rm_code mM_entryLine) 102 = .ok (.iconst 2, 1) := by decide +kernel
theorem d_M_entryLine_103 : decode (rm_code mM_entryLine) 103 = .ok (.iadd, 1) := by decide +kernel
theorem d_M_entryLine_104 : decode (rm_code mM_entryLine) 104 = .ok (.iaload, 1) := by decide +kernel
theorem d_M_entryLine_105 : decode (rm_code mM_entryLine) 105 = .ok (.iconst 3, 1) := by decide +kernel
theorem d_M_entryLine_106 : decode (rm_code mM_entryLine) 106 = .ok (.iand, 1) := by decide +kernel
theorem d_M_entryLine_107 : decode (rm_code mM_entryLine) 107 = .ok (.istore_n 3, 1) := by decide +kernel
theorem d_M_entryLine_108 : decode (rm_code mM_entryLine) 108 = .ok (.aload_n 0, 1) := by decide +kernel
theorem d_M_entryLine_109 : decode (rm_code mM_entryLine) 109 = .ok (.iload_n 3, 1) := by decide +kernel
theorem d_M_entryLine_110 : decode (rm_code mM_entryLine) 110 = .ok (.iconst 1, 1) := by decide +kernel
theorem d_M_entryLine_111 : decode (rm_code mM_entryLine) 111 = .ok (.if_icmp .ne (8), 3) := by decide +kernel
theorem d_M_entryLine_114 : decode (rm_code mM_entryLine) 114 = .ok (.bipush (83), 2) := by decide +kernel
theorem d_M_entryLine_116 : decode (rm_code mM_entryLine) 116 = .ok (.goto (25), 3) := by decide +kernel
theorem d_M_entryLine_119 : decode (rm_code mM_entryLine) 119 = .ok (.iload_n 3, 1) := by decide +kernel
theorem d_M_entryLine_120 : decode (rm_code mM_entryLine) 120 = .ok (.iconst 2, 1) := by decide +kernel
theorem d_M_entryLine_121 : decode (rm_code mM_entryLine) 121 = .ok (.if_icmp .ne (8), 3) := by decide +kernel
theorem d_M_entryLine_124 : decode (rm_code mM_entryLine) 124 = .ok (.bipush (80), 2) := by decide +kernel
theorem d_M_entryLine_126 : decode (rm_code mM_entryLine) 126 = .ok (.goto (15), 3) := by decide +kernel
theorem d_M_entryLine_129 : decode (rm_code mM_entryLine) 129 = .ok (.iload_n 3, 1) := by decide +kernel
theorem d_M_entryLine_130 : decode (rm_code mM_entryLine) 130 = .ok (.iconst 3, 1) := by decide +kernel
theorem d_M_entryLine_131 : decode (rm_code mM_entryLine) 131 = .ok (.if_icmp .ne (8), 3) := by decide +kernel
theorem d_M_entryLine_134 : decode (rm_code mM_entryLine) 134 = .ok (.bipush (85), 2) := by decide +kernel
theorem d_M_entryLine_136 : decode (rm_code mM_entryLine) 136 = .ok (.goto (5), 3) := by decide +kernel
theorem d_M_entryLine_139 : decode (rm_code mM_entryLine) 139 = .ok (.bipush (63), 2) := by decide +kernel
theorem d_M_entryLine_141 : decode (rm_code mM_entryLine) 141 = .ok (.invokevirtual 406, 3) := by decide +kernel
theorem d_M_entryLine_144 : decode (rm_code mM_entryLine) 144 = .ok (.aload_n 0, 1) := by decide +kernel
theorem d_M_entryLine_145 : decode (rm_code mM_entryLine) 145 = .ok (.getfield 195, 3) := by decide +kernel
theorem d_M_entryLine_148 : decode (rm_code mM_entryLine) 148 = .ok (.iload_n 1, 1) := by decide +kernel
theorem d_M_entryLine_149 : decode (rm_code mM_entryLine) 149 = .ok (.iconst 2, 1) := by decide +kernel
theorem d_M_entryLine_150 : decode (rm_code mM_entryLine) 150 = .ok (.iadd, 1) := by decide +kernel
theorem d_M_entryLine_151 : decode (rm_code mM_entryLine) 151 = .ok (.iaload, 1) := by decide +kernel
theorem d_M_entryLine_152 : decode (rm_code mM_entryLine) 152 = .ok (.sipush (128), 3) := by decide +kernel
theorem d_M_entryLine_155 : decode (rm_code mM_entryLine) 155 = .ok (.if_icmp .ge (9), 3) := by decide +kernel
theorem d_M_entryLine_158 : decode (rm_code mM_entryLine) 158 = .ok (.aload_n 0, 1) := by decide +kernel
theorem d_M_entryLine_159 : decode (rm_code mM_entryLine) 159 = .ok (.bipush (42), 2) := by decide +kernel
theorem d_M_entryLine_161 : decode (rm_code mM_entryLine) 161 = .ok (.invokevirtual 406, 3) := by decide +kernel
theorem d_M_entryLine_164 : decode (rm_code mM_entryLine) 164 = .ok (.aload_n 0, 1) := by decide +kernel
theorem d_M_entryLine_165 : decode (rm_code mM_entryLine) 165 = .ok (.bipush (13), 2) := by decide +kernel
theorem d_M_entryLine_167 : decode (rm_code mM_entryLine) 167 = .ok (.invokevirtual 406, 3) := by decide +kernel
theorem d_M_entryLine_170 : decode (rm_code mM_entryLine) 170 = .ok (.return_, 1) := by decide +kernel
theorem p_M_entryLine_0 {S : rz_S} {K : rz_S → Prop} {a1 : Int32} (w : rx_in (a1 + 15) 64 = true ∧ rz_ev mM_saysNumber [.ref 116, .int (S.1 124 ((a1 + 15).toNatClampNeg))] S (rz_v (fun Sq1 => rz_ev mM_says [.ref 116, .int 32] Sq1 (rz_v (fun Sq2 => rz_ev mM_says [.ref 116, .int 34] Sq2 (rz_v (fun Sq3 => rz mM_entryLine 29 [(0, .ref 116), (1, .int a1), (2, .int 1), (3, .int 0)] [] Sq3 (rz_v K)))))))) : rz mM_entryLine 0 [(0, .ref 116), (1, .int a1)] [] S (rz_v K) := by
  refine rz_pure (pc' := 1) d_M_entryLine_0 rfl ?_
  refine rz_pure (pc' := 2) d_M_entryLine_1 rfl ?_
  refine rz_getr d_M_entryLine_2 f_12_195 rfl rfl ?_
  refine rz_pure (pc' := 6) d_M_entryLine_5 rfl ?_
  refine rz_bipush (v := 15) d_M_entryLine_6 (by decide) ?_
  refine rz_iadd d_M_entryLine_8 ?_
  refine rz_ialdv (F := S.1 124) (i := (a1 + 15).toNatClampNeg) d_M_entryLine_9 rfl w.1 rfl rfl ?_
  refine rz_callVv (t := [.int (S.1 124 ((a1 + 15).toNatClampNeg))]) d_M_entryLine_10 w_12_520 rfl rfl rfl w.2 (fun Sq1 q1 => ?_)
  refine rz_pure (pc' := 14) d_M_entryLine_13 rfl ?_
  refine rz_bipush (v := 32) d_M_entryLine_14 (by decide) ?_
  refine rz_callVv (t := [.int 32]) d_M_entryLine_16 w_12_406 rfl rfl rfl q1 (fun Sq2 q2 => ?_)
  refine rz_pure (pc' := 20) d_M_entryLine_19 rfl ?_
  refine rz_bipush (v := 34) d_M_entryLine_20 (by decide) ?_
  refine rz_callVv (t := [.int 34]) d_M_entryLine_22 w_12_406 rfl rfl rfl q2 (fun Sq3 q3 => ?_)
  refine rz_iconst (v := 1) d_M_entryLine_25 (by decide) ?_
  refine rz_pure (pc' := 27) (l' := [(2, .int 1), (0, .ref 116), (1, .int a1)]) d_M_entryLine_26 rfl ?_
  refine rz_iconst (v := 0) d_M_entryLine_27 (by decide) ?_
  refine rz_pure (pc' := 29) (l' := [(3, .int 0), (2, .int 1), (0, .ref 116), (1, .int a1)]) d_M_entryLine_28 rfl ?_
  exact rz_pick (ks := [0, 1, 2, 3]) (l := [(0, .ref 116), (1, .int a1), (2, .int 1), (3, .int 0)]) rfl rfl (by decide) rfl q3
theorem p_M_entryLine_29 {S : rz_S} {K : rz_S → Prop} {a1 : Int32} {a2 : Int32} {a3 : Int32} (w : ((10 ≤ a3 → rz mM_entryLine 85 [(0, .ref 116), (1, .int a1)] [] S (rz_v K)) ∧ (¬ 10 ≤ a3 → ((a2 = 0 → rz mM_entryLine 85 [(0, .ref 116), (1, .int a1)] [] S (rz_v K)) ∧ (¬ a2 = 0 → rx_in ((a1 + 5) + a3) 64 = true ∧ ((S.1 124 (((a1 + 5) + a3).toNatClampNeg) = 160 → rz mM_entryLine 60 [(0, .ref 116), (1, .int a1), (3, .int a3)] [.int 0] S (rz_v K)) ∧ (¬ S.1 124 (((a1 + 5) + a3).toNatClampNeg) = 160 → rz mM_entryLine 60 [(0, .ref 116), (1, .int a1), (3, .int a3)] [.int 1] S (rz_v K)))))))) : rz mM_entryLine 29 [(0, .ref 116), (1, .int a1), (2, .int a2), (3, .int a3)] [] S (rz_v K) := by
  refine rz_pure (pc' := 30) d_M_entryLine_29 rfl ?_
  refine rz_bipush (v := 10) d_M_entryLine_30 (by decide) ?_
  refine rz_icmpge (tgt := 85) d_M_entryLine_32 rfl (fun b1 => ?_) (fun b1 => ?_)
  · skip
    exact rz_pick (ks := [0, 1]) (l := [(0, .ref 116), (1, .int a1)]) rfl rfl (by decide) rfl (w.1 b1)
  · skip
    refine rz_pure (pc' := 36) d_M_entryLine_35 rfl ?_
    refine rz_ifeq (tgt := 85) d_M_entryLine_36 rfl (fun b2 => ?_) (fun b2 => ?_)
    · skip
      exact rz_pick (ks := [0, 1]) (l := [(0, .ref 116), (1, .int a1)]) rfl rfl (by decide) rfl ((w.2 b1).1 b2)
    · skip
      refine rz_pure (pc' := 40) d_M_entryLine_39 rfl ?_
      refine rz_getr d_M_entryLine_40 f_12_195 rfl rfl ?_
      refine rz_pure (pc' := 44) d_M_entryLine_43 rfl ?_
      refine rz_iconst (v := 5) d_M_entryLine_44 (by decide) ?_
      refine rz_iadd d_M_entryLine_45 ?_
      refine rz_pure (pc' := 47) d_M_entryLine_46 rfl ?_
      refine rz_iadd d_M_entryLine_47 ?_
      refine rz_ialdv (F := S.1 124) (i := ((a1 + 5) + a3).toNatClampNeg) d_M_entryLine_48 rfl ((w.2 b1).2 b2).1 rfl rfl ?_
      refine rz_sipush (v := 160) d_M_entryLine_49 (by decide) ?_
      refine rz_icmpeq (tgt := 59) d_M_entryLine_52 rfl (fun b3 => ?_) (fun b3 => ?_)
      · skip
        refine rz_iconst (v := 0) d_M_entryLine_59 (by decide) ?_
        exact rz_pick (ks := [0, 1, 3]) (l := [(0, .ref 116), (1, .int a1), (3, .int a3)]) rfl rfl (by decide) rfl (((w.2 b1).2 b2).2.1 b3)
      · skip
        refine rz_iconst (v := 1) d_M_entryLine_55 (by decide) ?_
        refine rz_pure (pc' := 60) d_M_entryLine_56 rfl ?_
        exact rz_pick (ks := [0, 1, 3]) (l := [(0, .ref 116), (1, .int a1), (3, .int a3)]) rfl rfl (by decide) rfl (((w.2 b1).2 b2).2.2 b3)
theorem p_M_entryLine_85 {S : rz_S} {K : rz_S → Prop} {a1 : Int32} (w : rz_ev mM_says [.ref 116, .int 34] S (rz_v (fun Sq1 => rz_ev mM_says [.ref 116, .int 32] Sq1 (rz_v (fun Sq2 => rx_in (a1 + 2) 64 = true ∧ (((Sq2.1 124 ((a1 + 2).toNatClampNeg)) &&& 3 = 1 → rz mM_entryLine 141 [(0, .ref 116), (1, .int a1)] [.int 83, .ref 116] Sq2 (rz_v K)) ∧ (¬ (Sq2.1 124 ((a1 + 2).toNatClampNeg)) &&& 3 = 1 → (((Sq2.1 124 ((a1 + 2).toNatClampNeg)) &&& 3 = 2 → rz mM_entryLine 141 [(0, .ref 116), (1, .int a1)] [.int 80, .ref 116] Sq2 (rz_v K)) ∧ (¬ (Sq2.1 124 ((a1 + 2).toNatClampNeg)) &&& 3 = 2 → (((Sq2.1 124 ((a1 + 2).toNatClampNeg)) &&& 3 = 3 → rz mM_entryLine 141 [(0, .ref 116), (1, .int a1)] [.int 85, .ref 116] Sq2 (rz_v K)) ∧ (¬ (Sq2.1 124 ((a1 + 2).toNatClampNeg)) &&& 3 = 3 → rz mM_entryLine 141 [(0, .ref 116), (1, .int a1)] [.int 63, .ref 116] Sq2 (rz_v K)))))))))))) : rz mM_entryLine 85 [(0, .ref 116), (1, .int a1)] [] S (rz_v K) := by
  refine rz_pure (pc' := 86) d_M_entryLine_85 rfl ?_
  refine rz_bipush (v := 34) d_M_entryLine_86 (by decide) ?_
  refine rz_callVv (t := [.int 34]) d_M_entryLine_88 w_12_406 rfl rfl rfl w (fun Sq1 q1 => ?_)
  refine rz_pure (pc' := 92) d_M_entryLine_91 rfl ?_
  refine rz_bipush (v := 32) d_M_entryLine_92 (by decide) ?_
  refine rz_callVv (t := [.int 32]) d_M_entryLine_94 w_12_406 rfl rfl rfl q1 (fun Sq2 q2 => ?_)
  refine rz_pure (pc' := 98) d_M_entryLine_97 rfl ?_
  refine rz_getr d_M_entryLine_98 f_12_195 rfl rfl ?_
  refine rz_pure (pc' := 102) d_M_entryLine_101 rfl ?_
  refine rz_iconst (v := 2) d_M_entryLine_102 (by decide) ?_
  refine rz_iadd d_M_entryLine_103 ?_
  refine rz_ialdv (F := Sq2.1 124) (i := (a1 + 2).toNatClampNeg) d_M_entryLine_104 rfl q2.1 rfl rfl ?_
  refine rz_iconst (v := 3) d_M_entryLine_105 (by decide) ?_
  refine rz_iand d_M_entryLine_106 ?_
  refine rz_pure (pc' := 108) (l' := [(3, .int ((Sq2.1 124 ((a1 + 2).toNatClampNeg)) &&& 3)), (0, .ref 116), (1, .int a1)]) d_M_entryLine_107 rfl ?_
  refine rz_pure (pc' := 109) d_M_entryLine_108 rfl ?_
  refine rz_pure (pc' := 110) d_M_entryLine_109 rfl ?_
  refine rz_iconst (v := 1) d_M_entryLine_110 (by decide) ?_
  refine rz_icmpne (tgt := 119) d_M_entryLine_111 rfl (fun b3 => ?_) (fun b3 => ?_)
  · skip
    refine rz_pure (pc' := 120) d_M_entryLine_119 rfl ?_
    refine rz_iconst (v := 2) d_M_entryLine_120 (by decide) ?_
    refine rz_icmpne (tgt := 129) d_M_entryLine_121 rfl (fun b4 => ?_) (fun b4 => ?_)
    · skip
      refine rz_pure (pc' := 130) d_M_entryLine_129 rfl ?_
      refine rz_iconst (v := 3) d_M_entryLine_130 (by decide) ?_
      refine rz_icmpne (tgt := 139) d_M_entryLine_131 rfl (fun b5 => ?_) (fun b5 => ?_)
      · skip
        refine rz_bipush (v := 63) d_M_entryLine_139 (by decide) ?_
        exact rz_pick (ks := [0, 1]) (l := [(0, .ref 116), (1, .int a1)]) rfl rfl (by decide) rfl (((q2.2.2 b3).2 b4).2 b5)
      · skip
        refine rz_bipush (v := 85) d_M_entryLine_134 (by decide) ?_
        refine rz_pure (pc' := 141) d_M_entryLine_136 rfl ?_
        exact rz_pick (ks := [0, 1]) (l := [(0, .ref 116), (1, .int a1)]) rfl rfl (by decide) rfl (((q2.2.2 b3).2 b4).1 b5)
    · skip
      refine rz_bipush (v := 80) d_M_entryLine_124 (by decide) ?_
      refine rz_pure (pc' := 141) d_M_entryLine_126 rfl ?_
      exact rz_pick (ks := [0, 1]) (l := [(0, .ref 116), (1, .int a1)]) rfl rfl (by decide) rfl ((q2.2.2 b3).1 b4)
  · skip
    refine rz_bipush (v := 83) d_M_entryLine_114 (by decide) ?_
    refine rz_pure (pc' := 141) d_M_entryLine_116 rfl ?_
    exact rz_pick (ks := [0, 1]) (l := [(0, .ref 116), (1, .int a1)]) rfl rfl (by decide) rfl (q2.2.1 b3)
theorem p_M_entryLine_60 {S : rz_S} {K : rz_S → Prop} {a1 : Int32} {a3 : Int32} {s0 : Int32} (w : ((s0 = 0 → rz mM_entryLine 29 [(0, .ref 116), (1, .int a1), (2, .int s0), (3, .int (a3 + 1))] [] S (rz_v K)) ∧ (¬ s0 = 0 → rx_in ((a1 + 5) + a3) 64 = true ∧ rz_ev mM_says [.ref 116, .int (S.1 124 (((a1 + 5) + a3).toNatClampNeg))] S (rz_v (fun Sq2 => rz mM_entryLine 29 [(0, .ref 116), (1, .int a1), (2, .int s0), (3, .int (a3 + 1))] [] Sq2 (rz_v K)))))) : rz mM_entryLine 60 [(0, .ref 116), (1, .int a1), (3, .int a3)] [.int s0] S (rz_v K) := by
  refine rz_pure (pc' := 61) (l' := [(2, .int s0), (0, .ref 116), (1, .int a1), (3, .int a3)]) d_M_entryLine_60 rfl ?_
  refine rz_pure (pc' := 62) d_M_entryLine_61 rfl ?_
  refine rz_ifeq (tgt := 79) d_M_entryLine_62 rfl (fun b1 => ?_) (fun b1 => ?_)
  · skip
    refine rz_pure (pc' := 82) (l' := [(3, .int (a3 + 1)), (2, .int s0), (0, .ref 116), (1, .int a1)]) d_M_entryLine_79 rfl ?_
    refine rz_pure (pc' := 29) d_M_entryLine_82 rfl ?_
    exact rz_pick (ks := [0, 1, 2, 3]) (l := [(0, .ref 116), (1, .int a1), (2, .int s0), (3, .int (a3 + 1))]) rfl rfl (by decide) rfl (w.1 b1)
  · skip
    refine rz_pure (pc' := 66) d_M_entryLine_65 rfl ?_
    refine rz_pure (pc' := 67) d_M_entryLine_66 rfl ?_
    refine rz_getr d_M_entryLine_67 f_12_195 rfl rfl ?_
    refine rz_pure (pc' := 71) d_M_entryLine_70 rfl ?_
    refine rz_iconst (v := 5) d_M_entryLine_71 (by decide) ?_
    refine rz_iadd d_M_entryLine_72 ?_
    refine rz_pure (pc' := 74) d_M_entryLine_73 rfl ?_
    refine rz_iadd d_M_entryLine_74 ?_
    refine rz_ialdv (F := S.1 124) (i := ((a1 + 5) + a3).toNatClampNeg) d_M_entryLine_75 rfl (w.2 b1).1 rfl rfl ?_
    refine rz_callVv (t := [.int (S.1 124 (((a1 + 5) + a3).toNatClampNeg))]) d_M_entryLine_76 w_12_406 rfl rfl rfl (w.2 b1).2 (fun Sq2 q2 => ?_)
    refine rz_pure (pc' := 82) (l' := [(3, .int (a3 + 1)), (2, .int s0), (0, .ref 116), (1, .int a1)]) d_M_entryLine_79 rfl ?_
    refine rz_pure (pc' := 29) d_M_entryLine_82 rfl ?_
    exact rz_pick (ks := [0, 1, 2, 3]) (l := [(0, .ref 116), (1, .int a1), (2, .int s0), (3, .int (a3 + 1))]) rfl rfl (by decide) rfl q2
theorem p_M_entryLine_141 {S : rz_S} {K : rz_S → Prop} {a1 : Int32} {s0 : Int32} (w : rz_ev mM_says [.ref 116, .int s0] S (rz_v (fun Sq1 => rx_in (a1 + 2) 64 = true ∧ ((128 ≤ Sq1.1 124 ((a1 + 2).toNatClampNeg) → rz mM_entryLine 164 [(0, .ref 116)] [] Sq1 (rz_v K)) ∧ (¬ 128 ≤ Sq1.1 124 ((a1 + 2).toNatClampNeg) → rz_ev mM_says [.ref 116, .int 42] Sq1 (rz_v (fun Sq3 => rz mM_entryLine 164 [(0, .ref 116)] [] Sq3 (rz_v K)))))))) : rz mM_entryLine 141 [(0, .ref 116), (1, .int a1)] [.int s0, .ref 116] S (rz_v K) := by
  refine rz_callVv (t := [.int s0]) d_M_entryLine_141 w_12_406 rfl rfl rfl w (fun Sq1 q1 => ?_)
  refine rz_pure (pc' := 145) d_M_entryLine_144 rfl ?_
  refine rz_getr d_M_entryLine_145 f_12_195 rfl rfl ?_
  refine rz_pure (pc' := 149) d_M_entryLine_148 rfl ?_
  refine rz_iconst (v := 2) d_M_entryLine_149 (by decide) ?_
  refine rz_iadd d_M_entryLine_150 ?_
  refine rz_ialdv (F := Sq1.1 124) (i := (a1 + 2).toNatClampNeg) d_M_entryLine_151 rfl q1.1 rfl rfl ?_
  refine rz_sipush (v := 128) d_M_entryLine_152 (by decide) ?_
  refine rz_icmpge (tgt := 164) d_M_entryLine_155 rfl (fun b2 => ?_) (fun b2 => ?_)
  · skip
    exact rz_pick (ks := [0]) (l := [(0, .ref 116)]) rfl rfl (by decide) rfl (q1.2.1 b2)
  · skip
    refine rz_pure (pc' := 159) d_M_entryLine_158 rfl ?_
    refine rz_bipush (v := 42) d_M_entryLine_159 (by decide) ?_
    refine rz_callVv (t := [.int 42]) d_M_entryLine_161 w_12_406 rfl rfl rfl (q1.2.2 b2) (fun Sq3 q3 => ?_)
    exact rz_pick (ks := [0]) (l := [(0, .ref 116)]) rfl rfl (by decide) rfl q3
theorem p_M_entryLine_164 {S : rz_S} {K : rz_S → Prop} (w : rz_ev mM_says [.ref 116, .int 13] S (rz_v (fun Sq1 => K Sq1))) : rz mM_entryLine 164 [(0, .ref 116)] [] S (rz_v K) := by
  refine rz_pure (pc' := 165) d_M_entryLine_164 rfl ?_
  refine rz_bipush (v := 13) d_M_entryLine_165 (by decide) ?_
  refine rz_callVv (t := [.int 13]) d_M_entryLine_167 w_12_406 rfl rfl rfl w (fun Sq1 q1 => ?_)
  exact rz_vretv d_M_entryLine_170 rfl q1
theorem d_M_total_0 : decode (rm_code mM_total) 0 = .ok (.aload_n 0, 1) := by decide +kernel
theorem d_M_total_1 : decode (rm_code mM_total) 1 = .ok (.invokevirtual 180, 3) := by decide +kernel
theorem d_M_total_4 : decode (rm_code mM_total) 4 = .ok (.istore_n 2, 1) := by decide +kernel
theorem d_M_total_5 : decode (rm_code mM_total) 5 = .ok (.iload_n 2, 1) := by decide +kernel
theorem d_M_total_6 : decode (rm_code mM_total) 6 = .ok (.ifCond .eq (5), 3) := by decide +kernel
theorem d_M_total_9 : decode (rm_code mM_total) 9 = .ok (.iload_n 2, 1) := by decide +kernel
theorem d_M_total_10 : decode (rm_code mM_total) 10 = .ok (.ireturn, 1) := by decide +kernel
theorem d_M_total_11 : decode (rm_code mM_total) 11 = .ok (.iconst 0, 1) := by decide +kernel
theorem d_M_total_12 : decode (rm_code mM_total) 12 = .ok (.istore_n 3, 1) := by decide +kernel
theorem d_M_total_13 : decode (rm_code mM_total) 13 = .ok (.iconst 1, 1) := by decide +kernel
theorem d_M_total_14 : decode (rm_code mM_total) 14 = .ok (.istore 4, 2) := by decide +kernel
theorem d_M_total_16 : decode (rm_code mM_total) 16 = .ok (.iload 4, 2) := by decide +kernel
theorem d_M_total_18 : decode (rm_code mM_total) 18 = .ok (.bipush (12), 2) := by decide +kernel
theorem d_M_total_20 : decode (rm_code mM_total) 20 = .ok (.if_icmp .gt (34), 3) := by decide +kernel
theorem d_M_total_23 : decode (rm_code mM_total) 23 = .ok (.iload_n 3, 1) := by decide +kernel
theorem d_M_total_24 : decode (rm_code mM_total) 24 = .ok (.iload 4, 2) := by decide +kernel
theorem d_M_total_26 : decode (rm_code mM_total) 26 = .ok (.bipush (7), 2) := by decide +kernel
theorem d_M_total_28 : decode (rm_code mM_total) 28 = .ok (.if_icmp .ne (7), 3) := by decide +kernel
theorem d_M_total_31 : decode (rm_code mM_total) 31 = .ok (.iconst 0, 1) := by decide +kernel
theorem d_M_total_32 : decode (rm_code mM_total) 32 = .ok (.goto (14), 3) := by decide +kernel
theorem d_M_total_35 : decode (rm_code mM_total) 35 = .ok (.aload_n 0, 1) := by decide +kernel
theorem d_M_total_36 : decode (rm_code mM_total) 36 = .ok (.getfield 145, 3) := by decide +kernel
theorem d_M_total_39 : decode (rm_code mM_total) 39 = .ok (.iconst 2, 1) := by decide +kernel
theorem d_M_total_40 : decode (rm_code mM_total) 40 = .ok (.iconst 2, 1) := by decide +kernel
theorem d_M_total_41 : decode (rm_code mM_total) 41 = .ok (.iload 4, 2) := by decide +kernel
theorem d_M_total_43 : decode (rm_code mM_total) 43 = .ok (.imul, 1) := by decide +kernel
theorem d_M_total_44 : decode (rm_code mM_total) 44 = .ok (.iadd, 1) := by decide +kernel
theorem d_M_total_45 : decode (rm_code mM_total) 45 = .ok (.iaload, 1) := by decide +kernel
theorem d_M_total_46 : decode (rm_code mM_total) 46 = .ok (.iadd, 1) := by decide +kernel
theorem d_M_total_47 : decode (rm_code mM_total) 47 = .ok (.istore_n 3, 1) := by decide +kernel
theorem d_M_total_48 : decode (rm_code mM_total) 48 = .ok (.iinc 4 (1), 3) := by decide +kernel
theorem d_M_total_51 : decode (rm_code mM_total) 51 = .ok (.goto (-35), 3) := by decide +kernel
theorem d_M_total_54 : decode (rm_code mM_total) 54 = .ok (.aload_n 0, 1) := by decide +kernel
theorem d_M_total_55 : decode (rm_code mM_total) 55 = .ok (.iload_n 3, 1) := by decide +kernel
theorem d_M_total_56 : decode (rm_code mM_total) 56 = .ok (.invokevirtual 520, 3) := by decide +kernel
theorem d_M_total_59 : decode (rm_code mM_total) 59 = .ok (.aload_n 0, 1) := by decide +kernel
theorem d_M_total_60 : decode (rm_code mM_total) 60 = .ok (.bipush (32), 2) := by decide +kernel
theorem d_M_total_62 : decode (rm_code mM_total) 62 = .ok (.invokevirtual 406, 3) := by decide +kernel
theorem d_M_total_65 : decode (rm_code mM_total) 65 = .ok (.aload_n 0, 1) := by decide +kernel
theorem d_M_total_66 : decode (rm_code mM_total) 66 = .ok (.ldc2_w 523, 3) := by decide +kernel
theorem d_M_total_69 : decode (rm_code mM_total) 69 = .ok (.invokevirtual 411, 3) := by decide +kernel
theorem d_M_total_72 : decode (rm_code mM_total) 72 = .ok (.aload_n 0, 1) := by decide +kernel
theorem d_M_total_73 : decode (rm_code mM_total) 73 = .ok (.bipush (13), 2) := by decide +kernel
theorem d_M_total_75 : decode (rm_code mM_total) 75 = .ok (.invokevirtual 406, 3) := by decide +kernel
theorem d_M_total_78 : decode (rm_code mM_total) 78 = .ok (.aload_n 0, 1) := by decide +kernel
theorem d_M_total_79 : decode (rm_code mM_total) 79 = .ok (.getfield 302, 3) := by decide +kernel
theorem d_M_total_82 : decode (rm_code mM_total) 82 = .ok (.iload_n 1, 1) := by decide +kernel
theorem d_M_total_83 : decode (rm_code mM_total) 83 = .ok (.iconst 3, 1) := by decide +kernel
theorem d_M_total_84 : decode (rm_code mM_total) 84 = .ok (.iastore, 1) := by decide +kernel
theorem d_M_total_85 : decode (rm_code mM_total) 85 = .ok (.iconst 0, 1) := by decide +kernel
theorem d_M_total_86 : decode (rm_code mM_total) 86 = .ok (.ireturn, 1) := by decide +kernel
theorem p_M_total_0 {S : rz_S} {K : Int32 → rz_S → Prop} {a1 : Int32} (w : rz_ev mM_loads [.ref 116] S (rz_i (fun xq1 Sq1 => ((xq1 = 0 → rz mM_total 16 [(0, .ref 116), (1, .int a1), (3, .int 0), (4, .int 1)] [] Sq1 (rz_i K)) ∧ (¬ xq1 = 0 → K xq1 Sq1))))) : rz mM_total 0 [(0, .ref 116), (1, .int a1)] [] S (rz_i K) := by
  refine rz_pure (pc' := 1) d_M_total_0 rfl ?_
  refine rz_callVi (t := []) d_M_total_1 w_12_180 rfl rfl rfl w (fun xq1 Sq1 q1 => ?_)
  refine rz_pure (pc' := 5) (l' := [(2, .int xq1), (0, .ref 116), (1, .int a1)]) d_M_total_4 rfl ?_
  refine rz_pure (pc' := 6) d_M_total_5 rfl ?_
  refine rz_ifeq (tgt := 11) d_M_total_6 rfl (fun b2 => ?_) (fun b2 => ?_)
  · skip
    refine rz_iconst (v := 0) d_M_total_11 (by decide) ?_
    refine rz_pure (pc' := 13) (l' := [(3, .int 0), (2, .int xq1), (0, .ref 116), (1, .int a1)]) d_M_total_12 rfl ?_
    refine rz_iconst (v := 1) d_M_total_13 (by decide) ?_
    refine rz_pure (pc' := 16) (l' := [(4, .int 1), (3, .int 0), (2, .int xq1), (0, .ref 116), (1, .int a1)]) d_M_total_14 rfl ?_
    exact rz_pick (ks := [0, 1, 3, 4]) (l := [(0, .ref 116), (1, .int a1), (3, .int 0), (4, .int 1)]) rfl rfl (by decide) rfl (q1.1 b2)
  · skip
    refine rz_pure (pc' := 10) d_M_total_9 rfl ?_
    exact rz_ireti d_M_total_10 rfl rfl (q1.2 b2)
theorem p_M_total_16 {S : rz_S} {K : Int32 → rz_S → Prop} {a1 : Int32} {a3 : Int32} {a4 : Int32} (w : ((12 < a4 → rz_ev mM_saysNumber [.ref 116, .int a3] S (rz_v (fun Sq2 => rz_ev mM_says [.ref 116, .int 32] Sq2 (rz_v (fun Sq3 => rz_ev mM_says8 [.ref 116, .long (1179796805 : Int64)] Sq3 (rz_v (fun Sq4 => rz_ev mM_says [.ref 116, .int 13] Sq4 (rz_v (fun Sq5 => rx_in a1 15 = true ∧ K 0 (rz_fA Sq5 139 (upd (Sq5.1 139) a1.toNatClampNeg 3))))))))))) ∧ (¬ 12 < a4 → ((a4 = 7 → rz mM_total 16 [(0, .ref 116), (1, .int a1), (3, .int (a3 + 0)), (4, .int (a4 + 1))] [] S (rz_i K)) ∧ (¬ a4 = 7 → rx_in (2 + (2 * a4)) 64 = true ∧ rz mM_total 16 [(0, .ref 116), (1, .int a1), (3, .int (a3 + (S.1 123 ((2 + (2 * a4)).toNatClampNeg)))), (4, .int (a4 + 1))] [] S (rz_i K)))))) : rz mM_total 16 [(0, .ref 116), (1, .int a1), (3, .int a3), (4, .int a4)] [] S (rz_i K) := by
  refine rz_pure (pc' := 18) d_M_total_16 rfl ?_
  refine rz_bipush (v := 12) d_M_total_18 (by decide) ?_
  refine rz_icmpgt (tgt := 54) d_M_total_20 rfl (fun b1 => ?_) (fun b1 => ?_)
  · skip
    refine rz_pure (pc' := 55) d_M_total_54 rfl ?_
    refine rz_pure (pc' := 56) d_M_total_55 rfl ?_
    refine rz_callVv (t := [.int a3]) d_M_total_56 w_12_520 rfl rfl rfl (w.1 b1) (fun Sq2 q2 => ?_)
    refine rz_pure (pc' := 60) d_M_total_59 rfl ?_
    refine rz_bipush (v := 32) d_M_total_60 (by decide) ?_
    refine rz_callVv (t := [.int 32]) d_M_total_62 w_12_406 rfl rfl rfl q2 (fun Sq3 q3 => ?_)
    refine rz_pure (pc' := 66) d_M_total_65 rfl ?_
    refine rz_ldcl (z := 1179796805) d_M_total_66 rfl ?_
    refine rz_callVv (t := [.long (1179796805 : Int64)]) d_M_total_69 w_12_411 rfl rfl rfl q3 (fun Sq4 q4 => ?_)
    refine rz_pure (pc' := 73) d_M_total_72 rfl ?_
    refine rz_bipush (v := 13) d_M_total_73 (by decide) ?_
    refine rz_callVv (t := [.int 13]) d_M_total_75 w_12_406 rfl rfl rfl q4 (fun Sq5 q5 => ?_)
    refine rz_pure (pc' := 79) d_M_total_78 rfl ?_
    refine rz_getr d_M_total_79 f_12_302 rfl rfl ?_
    refine rz_pure (pc' := 83) d_M_total_82 rfl ?_
    refine rz_iconst (v := 3) d_M_total_83 (by decide) ?_
    refine rz_iastv (F := Sq5.1 139) (i := a1.toNatClampNeg) d_M_total_84 rfl q5.1 rfl rfl ?_
    refine rz_iconst (v := 0) d_M_total_85 (by decide) ?_
    exact rz_ireti d_M_total_86 rfl rfl q5.2
  · skip
    refine rz_pure (pc' := 24) d_M_total_23 rfl ?_
    refine rz_pure (pc' := 26) d_M_total_24 rfl ?_
    refine rz_bipush (v := 7) d_M_total_26 (by decide) ?_
    refine rz_icmpne (tgt := 35) d_M_total_28 rfl (fun b6 => ?_) (fun b6 => ?_)
    · skip
      refine rz_pure (pc' := 36) d_M_total_35 rfl ?_
      refine rz_getr d_M_total_36 f_12_145 rfl rfl ?_
      refine rz_iconst (v := 2) d_M_total_39 (by decide) ?_
      refine rz_iconst (v := 2) d_M_total_40 (by decide) ?_
      refine rz_pure (pc' := 43) d_M_total_41 rfl ?_
      refine rz_imul d_M_total_43 ?_
      refine rz_iadd d_M_total_44 ?_
      refine rz_ialdv (F := S.1 123) (i := (2 + (2 * a4)).toNatClampNeg) d_M_total_45 rfl ((w.2 b1).2 b6).1 rfl rfl ?_
      refine rz_iadd d_M_total_46 ?_
      refine rz_pure (pc' := 48) (l' := [(3, .int (a3 + (S.1 123 ((2 + (2 * a4)).toNatClampNeg)))), (0, .ref 116), (1, .int a1), (4, .int a4)]) d_M_total_47 rfl ?_
      refine rz_pure (pc' := 51) (l' := [(4, .int (a4 + 1)), (3, .int (a3 + (S.1 123 ((2 + (2 * a4)).toNatClampNeg)))), (0, .ref 116), (1, .int a1)]) d_M_total_48 rfl ?_
      refine rz_pure (pc' := 16) d_M_total_51 rfl ?_
      exact rz_pick (ks := [0, 1, 3, 4]) (l := [(0, .ref 116), (1, .int a1), (3, .int (a3 + (S.1 123 ((2 + (2 * a4)).toNatClampNeg)))), (4, .int (a4 + 1))]) rfl rfl (by decide) rfl ((w.2 b1).2 b6).2
    · skip
      refine rz_iconst (v := 0) d_M_total_31 (by decide) ?_
      refine rz_pure (pc' := 46) d_M_total_32 rfl ?_
      refine rz_iadd d_M_total_46 ?_
      refine rz_pure (pc' := 48) (l' := [(3, .int (a3 + 0)), (0, .ref 116), (1, .int a1), (4, .int a4)]) d_M_total_47 rfl ?_
      refine rz_pure (pc' := 51) (l' := [(4, .int (a4 + 1)), (3, .int (a3 + 0)), (0, .ref 116), (1, .int a1)]) d_M_total_48 rfl ?_
      refine rz_pure (pc' := 16) d_M_total_51 rfl ?_
      exact rz_pick (ks := [0, 1, 3, 4]) (l := [(0, .ref 116), (1, .int a1), (3, .int (a3 + 0)), (4, .int (a4 + 1))]) rfl rfl (by decide) rfl ((w.2 b1).1 b6)
